/** The sentences of the document's "Terms" on the setup text and its errors. */
final class SetupBoundaries {
    private static final String TERMS = "Terms";
    private static final int SYNTAX = TaylorModels.SYNTAX_ERROR;
    private static final int RANGE = TaylorModels.OUT_OF_RANGE;
    private static final int UNDEFINED = TaylorModels.UNDEFINED;
    private static final int REFUSED = TaylorModels.REFUSED;
    private static final int DEEP = TaylorModels.TOO_DEEP;
    /** The largest constant, as model h; and the widest remainder, as model g. */
    private static final String LARGEST = "models;h=100000*100000*10000;g=0#100000;g=g*100000*10000;";
    private static final String[] OPENINGS = {"(", "intx(", "inty(", "a[", "a[x,"};
    private static final String[] CLOSINGS = {")", ")", ")", ",x]", "]"};

    private SetupBoundaries() {
    }

    static void check() {
        setups();
        statements();
        sums();
        terms();
        factors();
        numbersAndWords();
        spaces();
        bytesBetweenTokens();
        bytesAsNamesAndFactors();
        nothingAtFirst();
        statementsInOrder();
        valuesOfFactors();
        fromTheLeft();
        nesting();
        smallestOffset();
        sameOffset();
        refusedFactor();
        refusedTerm();
        refusedNumber();
        refusedComposition();
        notAllowedHere();
        endsTooEarly();
        outOfRange();
        undefined();
        tooDeep();
    }

    /** A text with an error at the offset where the exclamation mark stands, which is no part of it. */
    private static void faulty(int code, String marked) {
        int offset = marked.indexOf('!');
        SetupTest.error(marked.substring(0, offset) + marked.substring(offset + 1), code, offset);
    }

    private static void setups() {
        Check.sentence(TERMS, "setup     = \"models\" \";\" { statement \";\" }");
        SetupTest.fine("models;", 0);
        SetupTest.fine("models;a=x;", 1);
        SetupTest.fine("models;a=x;b=y;", 2);
        faulty(SYNTAX, "models!");
        faulty(SYNTAX, "!;");
        faulty(SYNTAX, "!a=x;");
        faulty(SYNTAX, "!model;");
        faulty(SYNTAX, "!modelsm;");
        faulty(SYNTAX, "!smodels;");
        faulty(SYNTAX, "!modelsa=x;");
        faulty(SYNTAX, "models !a=x;");
        faulty(SYNTAX, "models;!;");
        faulty(SYNTAX, "models;a=x;!;");
        faulty(SYNTAX, "models;a=x!");
        faulty(SYNTAX, "models;a=x !b=y;");
        faulty(SYNTAX, "models;a=x!,b=y;");
        faulty(SYNTAX, "models;a=x;!models;");
    }

    private static void statements() {
        Check.sentence(TERMS, "statement = name \"=\" sum [ \"#\" number ]");
        SetupTest.fine("models;a=1;", 1);
        SetupTest.fine("models;a=1#1;", 1);
        faulty(SYNTAX, "models;!=x;");
        faulty(SYNTAX, "models;a!;");
        faulty(SYNTAX, "models;a !x;");
        faulty(SYNTAX, "models;a=!;");
        faulty(SYNTAX, "models;a=!=x;");
        faulty(SYNTAX, "models;a=!#1;");
        faulty(SYNTAX, "models;a!#1=x;");
        faulty(SYNTAX, "models;a=1#!;");
        faulty(SYNTAX, "models;a=1#!x;");
        faulty(SYNTAX, "models;a=1#!a;");
        faulty(SYNTAX, "models;a=1#!-1;");
        faulty(SYNTAX, "models;a=1#!(1);");
        faulty(SYNTAX, "models;a=1#1!#1;");
        faulty(SYNTAX, "models;a=1#1!+1;");
        faulty(SYNTAX, "models;a=1#1!*1;");
        faulty(SYNTAX, "models;a=(1!#1);");
        faulty(SYNTAX, "models;a=1;a=a[1!#1,1];");
        faulty(SYNTAX, "models;a![x,y]=x;");
        faulty(SYNTAX, "models;!x=x;");
        faulty(SYNTAX, "models;!1=x;");
        faulty(SYNTAX, "models;!(a)=x;");
    }

    private static void sums() {
        Check.sentence(TERMS, "sum       = term { ( \"+\" | \"-\" ) term }");
        SetupTest.value("models;a=7;", 0, "7 x0y0, 0 to 0");
        SetupTest.value("models;a=7+2;", 0, "9 x0y0, 0 to 0");
        SetupTest.value("models;a=7-2+5-1;", 0, "9 x0y0, 0 to 0");
        SetupTest.value("models;a=7" + "+1".repeat(344) + ";", 0, "351 x0y0, 0 to 0");
        faulty(SYNTAX, "models;a=!+7;");
        faulty(SYNTAX, "models;a=!-7;");
        faulty(SYNTAX, "models;a=7+!;");
        faulty(SYNTAX, "models;a=7-!;");
        faulty(SYNTAX, "models;a=7+!+2;");
        faulty(SYNTAX, "models;a=7-!-2;");
        faulty(SYNTAX, "models;a=7+!*2;");
        faulty(SYNTAX, "models;a=7 !2;");
        faulty(SYNTAX, "models;a=7+(!+2);");
    }

    private static void terms() {
        Check.sentence(TERMS, "term      = factor { \"*\" factor }");
        SetupTest.value("models;a=x*7000;", 0, "7000 x1y0, 0 to 0");
        SetupTest.value("models;a=x*y*y;", 0, "1000 x1y2, 0 to 0");
        SetupTest.value("models;a=7" + "*1000".repeat(137) + ";", 0, "7 x0y0, 0 to 0");
        faulty(SYNTAX, "models;a=!*x;");
        faulty(SYNTAX, "models;a=x*!;");
        faulty(SYNTAX, "models;a=x*!*x;");
        faulty(SYNTAX, "models;a=x*!-x;");
        faulty(SYNTAX, "models;a=x !x;");
        faulty(SYNTAX, "models;a=x!/x;");
        faulty(SYNTAX, "models;a=2!(x);");
    }

    private static void factors() {
        Check.sentence(TERMS, "factor    = number | \"x\" | \"y\" | name [ \"[\" sum \",\" sum \"]\" ] | \"intx\" \"(\" "
                + "sum \")\" | \"inty\" \"(\" sum \")\" | \"(\" sum \")\"");
        SetupTest.value("models;a=7;b=a;", 1, "7 x0y0, 0 to 0");
        SetupTest.value("models;a=x-y;b=a[y+0,0+x];", 1, "1000 x0y1, -1000 x1y0, 0 to 0");
        SetupTest.value("models;a=intx(7+x);", 0, "7 x1y0, 500 x2y0, 0 to 0");
        SetupTest.value("models;a=inty(7+x);", 0, "7 x0y1, 1000 x1y1, 0 to 0");
        SetupTest.value("models;a=(7+x);", 0, "7 x0y0, 1000 x1y0, 0 to 0");
        for (String wrong : new String[] {"a[!];", "a[!,x];", "a[x!];", "a[x,!];", "a[x,x!,x];", "a[x,x!);", "a[x!;x];",
            "a[x,x!;", "a[x!", "a[!", "a[x,!", "a[x,x!", "a!(x,x);", "a[x,x]![x,x];", "x![x,x];", "y![x,x];", "7![x,x];",
            "(a)![x,x];", "a!{x,x};"}) {
            faulty(SYNTAX, "models;a=x;b=" + wrong);
        }
        for (String wrong : new String[] {"intx!;", "intx!", "intx !x;", "intx![x];", "intx(!);", "intx(x!;", "intx(x!",
            "intx(!", "intx(x!,x);", "intx(x!];", "inty!;", "inty !y;", "inty(!);", "inty(y!;", "!int(x);", "!intz(x);",
            "!intxy(x);", "!intxx(x);", "(!);", "(x!;", "(x!", "(!", "(x!];", "(x!,x);", "x!);", "![x,x];", "!);", "!];",
            "!,;", "!models;"}) {
            faulty(SYNTAX, "models;b=" + wrong);
        }
    }

    private static void numbersAndWords() {
        Check.sentence(TERMS, "A number is a run of decimal digits, of any length (leading zeros do not matter); a word is "
                + "a run of the letters a to z. Each run is as long as possible. A name is a word of one letter, a to h.");
        SetupTest.value("models;a=0;", 0, "0 to 0");
        SetupTest.value("models;a=9;", 0, "9 x0y0, 0 to 0");
        SetupTest.value("models;a=" + "0".repeat(690) + ";", 0, "0 to 0");
        SetupTest.value("models;a=" + "0".repeat(684) + "100000;", 0, "100000 x0y0, 0 to 0");
        SetupTest.value("models;a=x#" + "0".repeat(682) + "100000;", 0, "1000 x1y0, -100000 to 100000");
        faulty(RANGE, "models;a=!" + "0".repeat(684) + "100001;");
        faulty(RANGE, "models;a=!" + "9".repeat(691));
        faulty(RANGE, "models;a=!1" + "0".repeat(689) + ";");
        faulty(SYNTAX, "models;a=0 !0;");
        faulty(SYNTAX, "models;a=1!/;");
        faulty(SYNTAX, "models;a=1!:;");
        faulty(SYNTAX, "models;a=!/1;");
        faulty(SYNTAX, "models;a=!:1;");
        faulty(SYNTAX, "models;a=!xy;");
        faulty(SYNTAX, "models;a=x !y;");
        faulty(SYNTAX, "models;!aa=x;");
        faulty(SYNTAX, "models;!ab=x;");
        faulty(SYNTAX, "models;a=x;b=!aa;");
        faulty(SYNTAX, "models;a=x;b=!ax;");
        faulty(SYNTAX, "models;a=!z;");
        faulty(SYNTAX, "models;a=!X;");
        faulty(SYNTAX, "models;!A=x;");
        faulty(SYNTAX, "models;!`=x;");
        faulty(SYNTAX, "models;a=x!`;");
        faulty(SYNTAX, "models;a=x!{;");
        SetupTest.fine("models;h=x;", 1);
        faulty(SYNTAX, "models;!i=x;");
        faulty(UNDEFINED, "models;a=!h;");
        faulty(SYNTAX, "models;a=!i;");
    }

    private static void spaces() {
        Check.sentence(TERMS, "Spaces (byte 32) may precede any token and may follow the last one; a word and a number "
                + "side by side need none between them.");
        String[] tokens = {"models", ";", "a", "=", "x", "*", "12", "-", "(", "y", ")", "#", "3", ";", "b", "=", "a", "[",
            "intx", "(", "0", ")", ",", "y", "]", "+", "inty", "(", "a", ")", ";"};
        String dense = String.join("", tokens);
        TaylorModels m = Check.loaded(dense);
        for (String gap : new String[] {" ", "  ", "       "}) {
            String text = gap + String.join(gap, tokens) + gap;
            Check.due("the models of " + text, m.checksum(), Check.loaded(text).checksum());
            for (int k = 0; k <= tokens.length; k++) {
                StringBuilder one = new StringBuilder();
                for (int t = 0; t < tokens.length; t++) {
                    one.append(t == k ? gap : "").append(tokens[t]);
                }
                one.append(k == tokens.length ? gap : "");
                Check.due("the models of " + one, m.checksum(), Check.loaded(one.toString()).checksum());
            }
        }
        faulty(SYNTAX, "!mo dels;");
        faulty(SYNTAX, "models;a=1 !2;");
        faulty(SYNTAX, "models;a=!in tx(x);");
        faulty(SYNTAX, "models;a=!int x(x);");
        faulty(SYNTAX, "models;a=intx !x;");
        // A word and a number are two tokens without a space, so the second one is where the error is.
        faulty(SYNTAX, "models!1;");
        faulty(SYNTAX, "models;a=x!1;");
        faulty(SYNTAX, "models;a=1!x;");
        faulty(SYNTAX, "models;a!1=x;");
        faulty(SYNTAX, "models;a=intx!1;");
        faulty(SYNTAX, "models;a=x#1!x;");
    }

    private static void bytesBetweenTokens() {
        Check.sentence(TERMS, "No other byte separates tokens.");
        for (int b = 0; b <= 255; b++) {
            boolean letter = b >= 'a' && b <= 'z';
            String sign = String.valueOf((char) b);
            if (b == 32) {
                SetupTest.fine("models" + sign + ";a=1" + sign + "+2;", 1);
            } else {
                SetupTest.error("models" + sign + ";", SYNTAX, letter ? 0 : b == ';' ? 7 : 6);
                SetupTest.error(sign + "models;", SYNTAX, 0);
                // Behind the last token there may be one more statement, which a name begins.
                SetupTest.error("models;" + sign, SYNTAX, b >= 'a' && b <= 'h' ? 8 : 7);
                boolean fine = b >= '0' && b <= '9' || "+-*#".indexOf(b) >= 0;
                if (fine) {
                    SetupTest.fine("models;a=1" + sign + "2;", 1);
                } else {
                    SetupTest.error("models;a=1" + sign + "2;", SYNTAX, b == ';' ? 11 : 10);
                }
            }
        }
    }

    private static void bytesAsNamesAndFactors() {
        Check.sentence(TERMS, "A name is a word of one letter, a to h.");
        for (int b = 0; b <= 255; b++) {
            String sign = String.valueOf((char) b);
            if (b >= 'a' && b <= 'h') {
                SetupTest.fine("models;" + sign + "=x;", 1);
                SetupTest.value("models;" + sign + "=7;a=" + sign + ";", 0, "7 x0y0, 0 to 0");
            } else {
                SetupTest.error("models;" + sign + "=x;", SYNTAX, b == 32 ? 8 : 7);
                boolean factor = b >= '0' && b <= '9' || b == 'x' || b == 'y';
                if (factor) {
                    SetupTest.fine("models;a=" + sign + ";", 1);
                } else {
                    SetupTest.error("models;a=" + sign + ";", SYNTAX, b == 32 || b == '(' ? 10 : 9);
                }
            }
        }
    }

    private static void nothingAtFirst() {
        Check.sentence(TERMS, "At first no model is defined.");
        TaylorModels m = Check.loaded("models;a=x;b=y;");
        Check.due("a model of the text before", UNDEFINED, Check.load(m, "models;c=a;"));
        Check.due("its letter", 9, m.errorOffset());
        Check.due("a text of its own", 1, Check.load(m, "models;c=1;"));
        Check.due("which defines c alone", 4, m.defined());
        Check.due("a text with an error behind a statement", SYNTAX, Check.load(m, "models;h=1;?"));
        Check.due("h of it", UNDEFINED, Check.load(m, "models;c=h;"));
    }

    private static void statementsInOrder() {
        Check.sentence(TERMS, "Statements are done in their order: the model of the name becomes the value of the sum; with "
                + "# and a number n, -n to n is added to its remainder.");
        SetupTest.value("models;a=1;b=a;a=2;", 1, "1 x0y0, 0 to 0");
        SetupTest.value("models;a=1;b=a;a=2;", 0, "2 x0y0, 0 to 0");
        SetupTest.value("models;a=1;a=a+a+x;", 0, "2 x0y0, 1000 x1y0, 0 to 0");
        faulty(UNDEFINED, "models;b=!a;a=1;");
        SetupTest.value("models;a=x#0;", 0, "1000 x1y0, 0 to 0");
        SetupTest.value("models;a=x#1;", 0, "1000 x1y0, -1 to 1");
        SetupTest.value("models;a=x+1*1#2;", 0, "1000 x1y0, -2 to 3");
        SetupTest.value("models;a=x#1;a=a#1;", 0, "1000 x1y0, -2 to 2");
    }

    private static void valuesOfFactors() {
        Check.sentence(TERMS, "A number as a factor, 0 to 100000, is a constant; a name is the model as it is then, and with "
                + "brackets its composition with the values of both sums; intx and inty are antiderivatives by x and by y. "
                + "A number behind # is 0 to 100000.");
        SetupTest.value("models;a=0*x+0;", 0, "0 to 0");
        SetupTest.value("models;a=100000;", 0, "100000 x0y0, 0 to 0");
        faulty(RANGE, "models;a=!100001;");
        faulty(RANGE, "models;a=x*!100001;");
        SetupTest.value("models;a=x;b=a*a;a=y;c=a*b;", 2, "1000 x2y1, 0 to 0");
        SetupTest.value("models;a=x;a=a*a[y,x];", 0, "1000 x1y1, 0 to 0");
        SetupTest.value("models;a=x*x-y;b=a[y,x];", 1, "1000 x0y2, -1000 x1y0, 0 to 0");
        SetupTest.value("models;a=x#3;b=intx(a);", 1, "500 x2y0, -3 to 3");
        SetupTest.value("models;a=x#3;b=inty(a);", 1, "1000 x1y1, -3 to 3");
        SetupTest.value("models;a=x#100000;", 0, "1000 x1y0, -100000 to 100000");
        faulty(RANGE, "models;a=x#!100001;");
    }

    private static void fromTheLeft() {
        Check.sentence(TERMS, "Sums and products are computed from the left to the right.");
        SetupTest.value("models;a=10-3-2;", 0, "5 x0y0, 0 to 0");
        SetupTest.value("models;a=10-(3-2);", 0, "9 x0y0, 0 to 0");
        SetupTest.value("models;a=10-3+2;", 0, "9 x0y0, 0 to 0");
        SetupTest.value("models;a=1*500*2000;", 0, "0 to 2");
        SetupTest.value("models;a=1*(500*2000);", 0, "1 x0y0, 0 to 0");
        SetupTest.value("models;a=2000*500*1;", 0, "1 x0y0, 0 to 0");
        SetupTest.fine(LARGEST + "a=h-1+1;", 3);
        faulty(REFUSED, LARGEST + "a=h+1!-1;");
        SetupTest.fine(LARGEST + "a=h*1*100000;", 3);
        faulty(REFUSED, LARGEST + "a=h*100000!*1;");
    }

    /** Every way to open four, and five, of the parentheses and brackets inside one another. */
    private static void nesting() {
        for (int ways = 0; ways < 5 * 5 * 5 * 5 * 5; ways++) {
            StringBuilder open = new StringBuilder();
            StringBuilder close = new StringBuilder();
            int kinds = ways;
            for (int depth = 1; depth <= 4; depth++) {
                open.append(OPENINGS[kinds % 5]);
                close.insert(0, CLOSINGS[kinds % 5]);
                kinds /= 5;
            }
            Check.sentence(TERMS, "Parentheses and brackets (those of intx and inty as well) nest at most 4 deep, counted "
                    + "together.");
            if (kinds == 0) {
                SetupTest.fine("models;a=0;b=" + open + "0" + close + ";", 2);
            }
            Check.sentence(TERMS, "TOO_DEEP: an opening parenthesis or bracket inside 4 others, at this parenthesis or "
                    + "bracket.");
            String fifth = OPENINGS[kinds];
            int sign = Math.max(fifth.indexOf('('), fifth.indexOf('['));
            faulty(DEEP, "models;a=0;b=" + open + fifth.substring(0, sign) + "!" + fifth.substring(sign) + "0"
                    + CLOSINGS[kinds] + close + ";");
        }
    }

    private static void tooDeep() {
        Check.sentence(TERMS, "TOO_DEEP: an opening parenthesis or bracket inside 4 others, at this parenthesis or bracket.");
        SetupTest.fine("models;a=((((0))));", 1);
        faulty(DEEP, "models;a=((((!(0)))));");
        faulty(DEEP, "models;a=((((!(");
        faulty(DEEP, "models;a=((((!(?");
        faulty(DEEP, "models;a=((((0+ !(0)))));");
        faulty(DEEP, "models;a=((((0*intx !(0)))));");
        faulty(DEEP, "models;a=0;b=((((a ![0,0]))));");
        faulty(DEEP, "models;a=0;b=((((a![");
        Check.sentence(TERMS, "nest at most 4 deep, counted together.");
        SetupTest.fine("models;a=((((0))))*((((0))))+((((0))));", 1);
        SetupTest.fine("models;a=0" + "+(0)".repeat(9) + ";", 1);
        SetupTest.fine("models;a=0;b=a[((0)),((0))];c=a[(((0))),(((0)))];", 3);
        SetupTest.fine("models;a=((((0))));b=((((0))));", 2);
        faulty(DEEP, "models;a=0;c=a[(((0))),(((!(0))))];");
        faulty(DEEP, "models;a=0;c=a[(((!(0)))),(0)];");
        SetupTest.fine("models;a=((((0)+0))+(((0))));", 1);
        faulty(DEEP, "models;a=((((0)+0))+(((!(0)))));");
    }

    private static void smallestOffset() {
        Check.sentence(TERMS, "The first error in the text is the one with the smallest offset.");
        String[] wrong = {"a=!$;", "a=!100001;", "a=!c;", "a=h+1!;", "a=((((!(0)))));"};
        int[] codes = {SYNTAX, RANGE, UNDEFINED, REFUSED, DEEP};
        for (int k = 0; k < wrong.length; k++) {
            faulty(codes[k], LARGEST + wrong[k]);
            for (String other : wrong) {
                faulty(codes[k], LARGEST + wrong[k] + other.replace("!", ""));
            }
        }
        faulty(UNDEFINED, LARGEST + "a=x*!c+100001;");
        faulty(RANGE, LARGEST + "a=x*!100001+c;");
        faulty(REFUSED, LARGEST + "a=(h+1!+c);");
        faulty(UNDEFINED, LARGEST + "a=(h+!c+1);");
        faulty(DEEP, LARGEST + "a=((((!(c)))));");
        faulty(UNDEFINED, LARGEST + "a=((((!c(0)))));");
        faulty(SYNTAX, LARGEST + "a=x#!c;");
    }

    private static void sameOffset() {
        Check.sentence(TERMS, "If several kinds of error have the same offset, the first one in this list counts");
        // A token that the grammar does not allow, out of range, undefined, or too deep; first with nothing refused.
        faulty(SYNTAX, LARGEST + "a=h !$;");
        faulty(SYNTAX, LARGEST + "a=h !100001;");
        faulty(SYNTAX, LARGEST + "a=h !c;");
        faulty(SYNTAX, LARGEST + "a=((((h !(0)))));");
        faulty(SYNTAX, LARGEST + "a=((((x ![0,0]))));");
        faulty(SYNTAX, LARGEST + "!100001=x;");
        faulty(SYNTAX, LARGEST + "a=((((0))))*((((x !intx(0)))));");
        faulty(SYNTAX, LARGEST + "a=h#!c;");
        faulty(SYNTAX, LARGEST + "a=h#1 !100001;");
        faulty(SYNTAX, LARGEST + "a=h!");
        faulty(REFUSED, LARGEST + "a=h+1 !$;");
        faulty(REFUSED, LARGEST + "a=h+1 !100001;");
        faulty(REFUSED, LARGEST + "a=h+1 !c;");
        faulty(REFUSED, LARGEST + "a=((((h+1 !(0)))));");
        faulty(REFUSED, LARGEST + "a=((((h*1001 ![0,0]))));");
        faulty(REFUSED, LARGEST + "a=h*1001 !100001;");
        faulty(REFUSED, LARGEST + "a=intx(g+x*x) !c;");
        faulty(REFUSED, LARGEST + "a=g#1 !100001;");
        faulty(REFUSED, LARGEST + "a=h[1001,0] !c;");
        faulty(REFUSED, LARGEST + "a=h+1!");
    }

    private static void refusedSentence() {
        Check.sentence(TERMS, "REFUSED: the token (or byte, or the end of the text, at its length) behind a factor, a term or "
                + "a number behind # by which something would be too large, or behind the ] of a composition that is not "
                + "possible.");
    }

    private static boolean isLetter(char c) {
        return c >= 'a' && c <= 'z';
    }

    private static boolean isDigit(char c) {
        return c >= '0' && c <= '9';
    }

    /** Behind what is refused stands each token that may follow, one that may not, a byte, or nothing. */
    private static void refusedBefore(String text, String[] followers) {
        char last = text.charAt(text.length() - 1);
        for (String follower : followers) {
            char next = follower.isEmpty() ? ' ' : follower.charAt(0);
            if (!(isLetter(last) && isLetter(next) || isDigit(last) && isDigit(next))) {
                faulty(REFUSED, text + "!" + follower);
            }
            faulty(REFUSED, text + "  !" + follower);
        }
    }

    private static void refusedFactor() {
        refusedSentence();
        String[] followers = {";", "*x;", "+x;", "-x;", "#1;", ")", "]", ",", "", "$", "\u0000", "\u00ff", "7", "x", "c",
            "models", "=", "[", "("};
        SetupTest.fine(LARGEST + "a=h*1000;", 3);
        refusedBefore(LARGEST + "a=h*1001", followers);
        refusedBefore(LARGEST + "a=1*(2-(3+h*1001", followers);
        refusedBefore(LARGEST + "a=1001*(h)", followers);
        SetupTest.fine(LARGEST + "a=1000*h;", 3);
        refusedBefore(LARGEST + "a=1001*h", new String[] {";", "*x;", "+x;", "", "$", "7"});
        SetupTest.fine(LARGEST + "a=g*1000;", 3);
        refusedBefore(LARGEST + "a=g*1001", followers);
        // The antiderivative itself is the factor; what multiplies it comes later.
        SetupTest.fine(LARGEST + "a=intx(g+x);", 3);
        refusedBefore(LARGEST + "a=intx(g+x*x)", followers);
        SetupTest.fine(LARGEST + "a=inty(g+y);", 3);
        refusedBefore(LARGEST + "a=0*inty(g+y*y)", followers);
        // The brackets belong to the factor: h[x,y] is 10^8, and h * 2 would be too large only behind the bracket.
        SetupTest.fine(LARGEST + "a=1000*h[x,y];", 3);
        refusedBefore(LARGEST + "a=1001*h[x,y]", followers);
        faulty(UNDEFINED, LARGEST + "a=1001*h[x,!c];");
        faulty(SYNTAX, LARGEST + "a=1001*h[x,y!;");
        faulty(SYNTAX, LARGEST + "a=1001*h[!;");
        faulty(DEEP, LARGEST + "a=((((1001*h![x,y]))));");
    }

    private static void refusedTerm() {
        refusedSentence();
        String[] followers = {";", "+x;", "-x;", "#1;", ")", "]", ",", "", "$", "\u0001", "\u0080", "7", "x", "c", "(", "="};
        SetupTest.fine(LARGEST + "a=h+0;", 3);
        refusedBefore(LARGEST + "a=h+1", followers);
        refusedBefore(LARGEST + "a=(h+1", followers);
        refusedBefore(LARGEST + "a=intx(h+1", followers);
        refusedBefore(LARGEST + "a=h[h+1", followers);
        refusedBefore(LARGEST + "a=h[x,h+1", followers);
        SetupTest.fine(LARGEST + "a=0-h-0;", 3);
        refusedBefore(LARGEST + "a=0-h-1", followers);
        SetupTest.fine(LARGEST + "a=g+x;", 3);
        refusedBefore(LARGEST + "a=g+g", followers);
        refusedBefore(LARGEST + "a=1*1-g", followers);
        // A term is whole at its last factor only.
        SetupTest.fine(LARGEST + "a=h+1000*0;", 3);
        SetupTest.fine(LARGEST + "a=h+1000*0*h;", 3);
        faulty(REFUSED, LARGEST + "a=h+1000*1!;");
        faulty(REFUSED, LARGEST + "a=h+1000*500*2!+x;");
        faulty(SYNTAX, LARGEST + "a=h+1*!$;");
        faulty(SYNTAX, LARGEST + "a=h+1*!");
        faulty(UNDEFINED, LARGEST + "a=h+1*!c;");
        faulty(RANGE, LARGEST + "a=h+1*!100001;");
        SetupTest.fine(LARGEST + "a=h+(1-1);", 3);
    }

    private static void refusedNumber() {
        refusedSentence();
        SetupTest.fine(LARGEST + "a=g#0;", 3);
        refusedBefore(LARGEST + "a=g#1", new String[] {";", "", "+1", "#1", "*", "x", "$", ")", "\t", "(", "[", "=", ";;"});
        refusedBefore(LARGEST + "a=g#100000", new String[] {";", ""});
        SetupTest.fine(LARGEST + "a=g*999#100000;", 3);
        faulty(REFUSED, LARGEST + "a=g*999+1*1#100000!;");
        faulty(RANGE, LARGEST + "a=g#!100001;");
    }

    private static void refusedComposition() {
        refusedSentence();
        String[] followers = {";", "*x;", "+x;", "-x;", "#1;", ")", "]", ",", "[", "", "$", "7", "x", "c", "("};
        SetupTest.fine(LARGEST + "a=h[1000,0-1000];", 3);
        refusedBefore(LARGEST + "a=h[1001,0]", followers);
        refusedBefore(LARGEST + "a=h[0,1001]", followers);
        refusedBefore(LARGEST + "a=x*(h[0-1001,0]", followers);
        refusedBefore(LARGEST + "a=0*h[x+1,y]", followers);
        refusedBefore(LARGEST + "a=h[x,x+y]", followers);
        // In an inner composition, the error is behind its own bracket.
        SetupTest.fine(LARGEST + "a=x;b=a[a[1000,0],0];", 4);
        faulty(REFUSED, LARGEST + "a=x;b=a[a[1001,0]!,0];");
        faulty(REFUSED, LARGEST + "a=x;b=a[a[1000,0]+1,0]!;");
        faulty(REFUSED, LARGEST + "a=x;b=a[0,a[0,1001] !];");
        // A composition that is possible, but in which something is too large.
        SetupTest.fine(LARGEST + "a=h*x+y-y;b=a[1000,0];", 4);
        faulty(REFUSED, LARGEST + "a=h*x+y;b=a[1000,1]!;");
        SetupTest.fine(LARGEST + "a=h*x+y;b=a[1000,0-1];", 4);
        faulty(UNDEFINED, LARGEST + "a=h[1001,!c];");
        faulty(SYNTAX, LARGEST + "a=h[1001,x!;");
        faulty(SYNTAX, LARGEST + "a=h[1001!");
    }

    private static void notAllowedHere() {
        Check.sentence(TERMS, "SYNTAX_ERROR: a token or byte that the grammar does not allow here, at its first byte;");
        int at = 0;
        String text = "models ; a = x * 12 - ( y ) # 3 ; b = a [ intx ( 0 ) , y ] + inty ( a ) ;";
        SetupTest.fine(text, 2);
        for (String token : text.split(" ")) {
            for (String wrong : new String[] {"$", "models", "=", "zz", "]]", "#", "\u0000"}) {
                boolean same = token.equals(wrong) || wrong.startsWith(token);
                String changed = text.substring(0, at) + wrong + text.substring(at + token.length());
                if (!same && !(wrong.equals("#") && "+*;-[".contains(token))) {
                    SetupTest.error(changed, SYNTAX, at);
                }
            }
            at += token.length() + 1;
        }
    }

    private static void endsTooEarly() {
        Check.sentence(TERMS, "the end of the text, at its length, if the text ends too early.");
        String text = "models;a=12*x-(y)#3;b=a[intx(0),y]+inty(a);";
        for (int length = 0; length <= text.length(); length++) {
            int start = length;
            while (start > 0 && isLetter(text.charAt(start - 1))) {
                start--;
            }
            boolean cut = start < length && length < text.length() && isLetter(text.charAt(length));
            int whole = length == 7 ? 0 : length == 20 ? 1 : length == text.length() ? 2 : -1;
            String part = text.substring(0, length);
            if (whole >= 0) {
                SetupTest.fine(part, whole);
                SetupTest.fine(part + "  ", whole);
            } else {
                SetupTest.error(part, SYNTAX, cut ? start : length);
                SetupTest.error(part + "   ", SYNTAX, cut ? start : length + 3);
            }
        }
        Check.sentence("Promise 3: load", "An empty text has a SYNTAX_ERROR.");
        SetupTest.error("", SYNTAX, 0);
        SetupTest.error(" ", SYNTAX, 1);
    }

    private static void outOfRange() {
        Check.sentence(TERMS, "OUT_OF_RANGE: a number outside its range, at its first digit.");
        SetupTest.fine("models;a=99999;b=100000;c=0100000#99999;d=x#100000;e=0#0;", 5);
        faulty(RANGE, "models;a=!100001;");
        faulty(RANGE, "models;a=!0100001;");
        faulty(RANGE, "models;a=  !100001;");
        faulty(RANGE, "models;a=x*(y-!100001);");
        faulty(RANGE, "models;a=x#!100001;");
        faulty(RANGE, "models;a=x# !000100001;");
        faulty(RANGE, "models;a=!200000;");
        faulty(RANGE, "models;a=!1000000;");
        faulty(RANGE, "models;a=!2147483648;");
        faulty(RANGE, "models;a=!4294967295;");
        faulty(RANGE, "models;a=!4294967296;");
        faulty(RANGE, "models;a=!9223372036854775808;");
        faulty(RANGE, "models;a=!18446744073709551616;");
        faulty(RANGE, "models;a=!18446744073709551617");
        faulty(RANGE, "models;a=!100001");
        faulty(RANGE, "models;a=!100001x;");
    }

    private static void undefined() {
        Check.sentence(TERMS, "UNDEFINED: the name of a model that is not defined, as a factor, at its letter.");
        for (char name = 'a'; name <= 'h'; name++) {
            SetupTest.fine("models;" + name + "=x;" + name + "=" + name + ";", 1);
            faulty(UNDEFINED, "models;" + name + "=!" + name + ";");
            char other = name == 'h' ? 'a' : (char) (name + 1);
            faulty(UNDEFINED, "models;" + name + "=x;" + other + "=" + name + "*!" + other + ";");
        }
        faulty(UNDEFINED, "models;a=x*( !b);");
        faulty(UNDEFINED, "models;a=!b[x,y];");
        faulty(UNDEFINED, "models;a=!b");
        faulty(UNDEFINED, "models;a=!b b;");
        faulty(UNDEFINED, "models;a=x;b=a[!b,x];");
        faulty(UNDEFINED, "models;a=x;b=a[x,!b];");
        faulty(UNDEFINED, "models;a=intx(!b);");
    }
}
