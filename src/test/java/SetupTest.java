/** Promises 3 and 4, and the setup text of "Terms": its grammar, its values, its errors and their order. */
final class SetupTest {
    private static final int SYNTAX = TaylorModels.SYNTAX_ERROR;
    private static final int RANGE = TaylorModels.OUT_OF_RANGE;
    private static final int UNDEFINED = TaylorModels.UNDEFINED;
    private static final int REFUSED = TaylorModels.REFUSED;
    private static final int DEEP = TaylorModels.TOO_DEEP;

    public static void main(String[] args) {
        values();
        spaces();
        numbers();
        order();
        syntaxErrors();
        ranges();
        undefinedNames();
        depth();
        refusals();
        ties();
        Check.finish("SetupTest");
    }

    static void value(String text, int model, String want) {
        Check.due(text, want, Check.shown(Check.loaded(text), model));
    }

    static void fine(String text, int want) {
        TaylorModels m = new TaylorModels();
        Check.due(text, want, Check.load(m, text));
        Check.due("errorOffset() of " + text, -1, m.errorOffset());
    }

    static void error(String text, int code, int offset) {
        TaylorModels m = new TaylorModels();
        Check.due(text, code, Check.load(m, text));
        Check.due("errorOffset() of " + text, offset, m.errorOffset());
        Check.due("defined() of " + text, 0, m.defined());
    }

    private static void values() {
        value("models;a=x;", 0, "1000 x1y0, 0 to 0");
        value("models;a=y;", 0, "1000 x0y1, 0 to 0");
        value("models;a=0;", 0, "0 to 0");
        value("models;a=100000;", 0, "100000 x0y0, 0 to 0");
        value("models;a=x#7;", 0, "1000 x1y0, -7 to 7");
        value("models;a=x#0;", 0, "1000 x1y0, 0 to 0");
        value("models;a=x#100000;", 0, "1000 x1y0, -100000 to 100000");
        value("models;a=x#7;b=a+a#1;", 1, "2000 x1y0, -15 to 15");
        value("models;a=x#7;b=y-a;", 1, "1000 x0y1, -1000 x1y0, -7 to 7");
        value("models;a=x*x*y;", 0, "1000 x2y1, 0 to 0");
        value("models;a=(x+y)*(x-y);", 0, "-1000 x0y2, 1000 x2y0, 0 to 0");
        value("models;a=x+y*500;", 0, "500 x0y1, 1000 x1y0, 0 to 0");
        value("models;a=intx(x);b=inty(a);", 1, "500 x2y1, 0 to 0");
        value("models;a=inty(x);", 0, "1000 x1y1, 0 to 0");
        value("models;a=x*y;b=a[y,x*500];", 1, "500 x1y1, 0 to 0");
        value("models;a=x-y;b=a[y,x];", 1, "1000 x0y1, -1000 x1y0, 0 to 0");
        // a[500*y,x] is 250 y^2 with -2 to 2; its square has 62.5 y^4 for the remainder, with -1.004 to 1.004 around it.
        value("models;a=x*x#2;b=a[a[500*y,x],y];", 1, "-4 to 66");
        value("models;a=x*x#2;b=a[a[500*y,x],y]*2000;", 1, "-8 to 132");
    }

    private static void spaces() {
        fine("models;", 0);
        fine("   models   ;   ", 0);
        fine("  models  ;  a  =  x  ;  b  =  a  [  x  ,  y  ]  #  1  ;  ", 2);
        error("models\t;", SYNTAX, 6);
        error("models;\n", SYNTAX, 7);
        error("mo dels;", SYNTAX, 0);
        error("models;a=1 0;", SYNTAX, 11);
        error("models;a=int x(x);", SYNTAX, 9);
    }

    private static void numbers() {
        value("models;a=000000000000000000000000000000000000100;", 0, "100 x0y0, 0 to 0");
        value("models;a=1#00000000000000000000000000000000000009;", 0, "1 x0y0, -9 to 9");
        error("models;a=5x;", SYNTAX, 10);
        error("models;a=x5;", SYNTAX, 10);
        error("models;a=-5;", SYNTAX, 9);
        error("models;a=5.5;", SYNTAX, 10);
        error("models;a=x#x;", SYNTAX, 11);
    }

    private static void order() {
        value("models;a=1;b=a;a=2;", 1, "1 x0y0, 0 to 0");
        value("models;a=1;a=a+a;a=a+a;", 0, "4 x0y0, 0 to 0");
        // From the left to the right: (1 * 500) rounded first, then * 2000; 0 * 2000 is 0 with twice the rounding.
        value("models;a=1*500*2000;", 0, "0 to 2");
        value("models;a=500*2000*1;", 0, "1 x0y0, 0 to 0");
        value("models;a=10-3-2;", 0, "5 x0y0, 0 to 0");
        value("models;a=10-(3-2);", 0, "9 x0y0, 0 to 0");
    }

    private static void syntaxErrors() {
        error("", SYNTAX, 0);
        error("    ", SYNTAX, 4);
        error("model;", SYNTAX, 0);
        error(" modelss;", SYNTAX, 1);
        error("Models;", SYNTAX, 0);
        error("models", SYNTAX, 6);
        error("models  ", SYNTAX, 8);
        error("models a", SYNTAX, 7);
        error("models;a", SYNTAX, 8);
        error("models;a=", SYNTAX, 9);
        error("models;a=x", SYNTAX, 10);
        error("models;a=x  ", SYNTAX, 12);
        error("models;;", SYNTAX, 7);
        error("models;a=x;;", SYNTAX, 11);
        error("models;i=x;", SYNTAX, 7);
        error("models;ab=x;", SYNTAX, 7);
        error("models;A=x;", SYNTAX, 7);
        error("models;1=x;", SYNTAX, 7);
        error("models;intx=x;", SYNTAX, 7);
        error("models;a x;", SYNTAX, 9);
        error("models;a=i;", SYNTAX, 9);
        error("models;a=z;", SYNTAX, 9);
        error("models;a=xy;", SYNTAX, 9);
        error("models;a=xz;", SYNTAX, 9);
        error("models;a=zx;", SYNTAX, 9);
        error("models;a=x{;", SYNTAX, 10);
        error("models;a=x`;", SYNTAX, 10);
        error("models;a=x:;", SYNTAX, 10);
        error("models;\u0000", SYNTAX, 7);
        error("models;\u0001", SYNTAX, 7);
        error("models;a=models;", SYNTAX, 9);
        error("models;a=x*;", SYNTAX, 11);
        error("models;a=x+;", SYNTAX, 11);
        error("models;a=x+-y;", SYNTAX, 11);
        error("models;a=(x;", SYNTAX, 11);
        error("models;a=(x", SYNTAX, 11);
        error("models;a=x);", SYNTAX, 10);
        error("models;a=();", SYNTAX, 10);
        error("models;a=(x];", SYNTAX, 11);
        error("models;a=x[x,y];", SYNTAX, 10);
        error("models;a=(x)(y);", SYNTAX, 12);
        error("models;a=x;b=a[x];", SYNTAX, 16);
        error("models;a=x;b=a[x,];", SYNTAX, 17);
        error("models;a=x;b=a[x,y,x];", SYNTAX, 18);
        error("models;a=x;b=a[x,y);", SYNTAX, 18);
        error("models;a=x;b=a(x,y);", SYNTAX, 14);
        error("models;a=intx;", SYNTAX, 13);
        error("models;a=intx[x];", SYNTAX, 13);
        error("models;a=intx(x,y);", SYNTAX, 15);
        error("models;a=intxx(x);", SYNTAX, 9);
        error("models;a=x#;", SYNTAX, 11);
        error("models;a=x#1#1;", SYNTAX, 12);
        error("models;a=x#1+1;", SYNTAX, 12);
        error("models;a=(x#1);", SYNTAX, 11);
        error("models;a=x/y;", SYNTAX, 10);
        error("models;a=x\u00e9;", SYNTAX, 10);
        error("models;a=x\u0000;", SYNTAX, 10);
    }

    private static void ranges() {
        fine("models;a=100000#100000;", 1);
        error("models;a=100001;", RANGE, 9);
        error("models;a=x+ 000100001;", RANGE, 12);
        error("models;a=99999999999999999999999999999999999999;", RANGE, 9);
        error("models;a=4294967296;", RANGE, 9);
        error("models;a=18446744073709551616;", RANGE, 9);
        error("models;a=x#100001;", RANGE, 11);
        error("models;a=x#4294967297;", RANGE, 11);
    }

    private static void undefinedNames() {
        error("models;a=a;", UNDEFINED, 9);
        error("models;a=x;b=a+ c;", UNDEFINED, 16);
        error("models;a=b[x,y];", UNDEFINED, 9);
        error("models;a=x;b=a[x,c];", UNDEFINED, 17);
        error("models;b=x;a=b*h;", UNDEFINED, 15);
        error("models;a=b c;", UNDEFINED, 9);
    }

    private static void depth() {
        fine("models;a=((((x))));", 1);
        error("models;a=(((((x)))));", DEEP, 13);
        error("models;a=((((intx(x)))));", DEEP, 17);
        fine("models;a=(((intx(x))));", 1);
        fine("models;a=x;b=(((a[x,y])));", 2);
        error("models;a=x;b=((((a[x,y]))));", DEEP, 18);
        error("models;a=x;b=a[a[a[a[y,(x)],y],y],y];", DEEP, 23);
        fine("models;a=x;b=a[a[a[a[y,x],y],y],y];", 2);
        fine("models;a=((((x))))*((((x))))+((((x))));", 1);
        error("models;a=intx(inty(intx(inty(intx(x)))));", DEEP, 33);
        error("models;a=((((x(x)))));", SYNTAX, 14);
        error("models;a=((((x[x,y]))));", SYNTAX, 14);
        error("models;a=((((intx x))));", SYNTAX, 18);
        error("models;a=((((a[x,y]))));", UNDEFINED, 13);
        error("models;a=x;((((((", SYNTAX, 11);
    }

    private static void refusals() {
        // 100000 * 100000 is 10^7; times 10 of a unit it is 10^8, which is the largest value there is.
        value("models;a=100000*100000*10000;", 0, "100000000 x0y0, 0 to 0");
        error("models;a=100000*100000*10001;", REFUSED, 28);
        error("models;a=100000*100000*10000+1;", REFUSED, 30);
        error("models;a=100000*100000*10000+1  ;", REFUSED, 32);
        error("models;a=100000*100000*10000+1", REFUSED, 30);
        value("models;a=0-100000*100000*10000;", 0, "-100000000 x0y0, 0 to 0");
        error("models;a=0-100000*100000*10000-1;", REFUSED, 32);
        // The sum is too large only behind its whole term: 10^8 + 1 * 0 is not.
        value("models;a=100000*100000*10000+1*0;", 0, "100000000 x0y0, 0 to 0");
        error("models;a=100000*100000*10000+1*1000;", REFUSED, 35);
        error("models;a=(100000*100000*10000+1);", REFUSED, 31);
        // A remainder of 10^5 times 10^3 (a million thousandths) is 10^8; # counts on top of it.
        value("models;a=0#100000;b=100000*10000*a;", 1, "-100000000 to 100000000");
        error("models;a=0#100000;b=100000*10000*a#1;", REFUSED, 36);
        error("models;a=0#100000;b=100000*10000*a#1", REFUSED, 36);
        error("models;a=0#100000;b=100000*10000*a#1  x", REFUSED, 38);
        error("models;a=0#100000;b=100000*10001*a;", REFUSED, 34);
        // The antiderivative keeps the remainder and adds the range of a lost term.
        value("models;a=0#100000;b=100000*10000*a;c=intx(b);", 2, "-100000000 to 100000000");
        error("models;a=0#100000;b=100000*10000*a;c=b+x*x*x;d=intx(c);", REFUSED, 54);
        error("models;a=0#100000;b=100000*10000*a;c=b+x*x*x;d=x*intx( c ) *x;", REFUSED, 59);
        // Compositions that are not possible, and one in which something is too large.
        error("models;a=x;b=a[x+1,y];", REFUSED, 21);
        error("models;a=x;b=a[x,y#1];", SYNTAX, 18);
        error("models;a=x;b=a[x,1001];", REFUSED, 22);
        error("models;a=x;b=a[x,1001]  ", REFUSED, 24);
        fine("models;a=x;b=a[x,1000];", 2);
        fine("models;a=x;b=a[0-x,0-1000];", 2);
        error("models;a=0#1;b=a[x+a,y];", REFUSED, 23);
        error("models;a=100000*100000*10000;b=a*x+a*y+a;c=x;d=b[1000,1000];", REFUSED, 59);
    }

    private static void ties() {
        String huge = "models;a=100000*100000*10000";
        error(huge + "+1 $", REFUSED, 31);
        error(huge + "+1 x", REFUSED, 31);
        error(huge + "+1 100001;", REFUSED, 31);
        error(huge + "+1(", REFUSED, 30);
        error(huge + "*1001[", REFUSED, 33);
        error("models;b=((((100000*100000*10001(", REFUSED, 32);
        error("models;a=x 100001;", SYNTAX, 11);
        error("models;a=x b;", SYNTAX, 11);
        error("models;a=x#2 100001;", SYNTAX, 13);
        error("models;a=100001*b;", RANGE, 9);
        error("models;a=b*100001;", UNDEFINED, 9);
        error("models;a=x;b=a[1001,c];", UNDEFINED, 20);
        error("models;a=x;b=a[1001,y;", SYNTAX, 21);
    }
}
