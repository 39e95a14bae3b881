/** Promises 1 to 5: a new object, the input buffer, what load does beside reading, the error offset, the defined set. */
final class BufferTest {
    public static void main(String[] args) {
        newObject();
        bytesAreInOrder();
        bufferIsFull();
        lengths();
        bufferIsEmptyAfterwards();
        errorLeavesData();
        definedSet();
        Check.finish("BufferTest");
    }

    private static void newObject() {
        TaylorModels m = new TaylorModels();
        Check.due("new: defined()", 0, m.defined());
        Check.due("new: errorOffset()", -1, m.errorOffset());
        Check.due("new: checksum()", 0, m.checksum());
        Check.due("new: undo()", -1, m.undo());
        Check.dueThrows("new: load(1)", IllegalArgumentException.class, () -> m.load(1));
        Check.due("new: load(0)", TaylorModels.SYNTAX_ERROR, m.load(0));
        Check.due("new: errorOffset() after load(0)", 0, m.errorOffset());
        Check.due("new: first append", 20, m.append(0, 0, 0, 0, 0));
    }

    private static void bytesAreInOrder() {
        TaylorModels m = new TaylorModels();
        // "mode" "ls; " "a=10" "0;b=" "x*y;"
        Check.due("append", 20, m.append(0x6d6f6465, 0x6c733b20, 0x613d3130, 0x303b623d, 0x782a793b));
        Check.due("load(20)", 2, m.load(20));
        Check.due("a", "100 x0y0, 0 to 0", Check.shown(m, 0));
        Check.due("b", "1000 x1y1, 0 to 0", Check.shown(m, 1));
        Check.due("append of high bytes", 20, m.append(-1, -1, -1, -1, -1));
        Check.due("load of high bytes", TaylorModels.SYNTAX_ERROR, m.load(20));
        Check.due("its offset", 0, m.errorOffset());
        Check.due("append of a high byte behind a text", 20,
                m.append(0x6d6f6465, 0x6c733bff, 0x20202020, 0x20202020, 0x20202020));
        Check.due("load of it", TaylorModels.SYNTAX_ERROR, m.load(20));
        Check.due("its offset", 7, m.errorOffset());
    }

    private static void bufferIsFull() {
        TaylorModels m = new TaylorModels();
        m.append(0x6d6f6465, 0x6c733b20, 0x20202020, 0x20202020, 0x20202020);
        for (int length = 40; length <= 700; length += 20) {
            Check.due("append", length, m.append(0x20202020, 0x20202020, 0x20202020, 0x20202020, 0x20202020));
        }
        Check.due("append beyond 700", -1, m.append(-1, -1, -1, -1, -1));
        Check.due("append beyond 700 again", -1, m.append(-1, -1, -1, -1, -1));
        Check.dueThrows("load(701)", IllegalArgumentException.class, () -> m.load(701));
        Check.due("load(700)", 0, m.load(700));
        Check.due("append afterwards", 20, m.append(0, 0, 0, 0, 0));
        m.load(0);
        Check.put(m, ";".repeat(700));
        Check.due("load of 700 tokens", TaylorModels.SYNTAX_ERROR, m.load(700));
        Check.put(m, "models;a=(" + "-".repeat(690));
        Check.due("load of 694 tokens", TaylorModels.SYNTAX_ERROR, m.load(700));
        Check.due("their error", 10, m.errorOffset());
        Check.put(m, "models;a=0" + "+0".repeat(344) + "-7");
        Check.due("load of a text without its last sign", TaylorModels.SYNTAX_ERROR, m.load(700));
        Check.due("at the end of the buffer", 700, m.errorOffset());
        Check.put(m, "models;a=" + "0".repeat(687) + "123;");
        Check.due("load of a long number", 1, m.load(700));
        Check.due("the long number", 123, m.coefficient(0, 0, 0));
        Check.put(m, "models;" + "a=x;".repeat(173) + "h");
        Check.due("load of many statements", TaylorModels.SYNTAX_ERROR, m.load(700));
        Check.due("behind the last name", 700, m.errorOffset());
        Check.put(m, "models;" + "a=x;".repeat(172) + "h=y; ");
        Check.due("load of many statements", 2, m.load(700));
    }

    private static void lengths() {
        TaylorModels m = new TaylorModels();
        Check.put(m, "models;a=1;a=?");
        Check.dueThrows("load(-1)", IllegalArgumentException.class, () -> m.load(-1));
        Check.dueThrows("load(MIN)", IllegalArgumentException.class, () -> m.load(Integer.MIN_VALUE));
        Check.dueThrows("load(21)", IllegalArgumentException.class, () -> m.load(21));
        Check.dueThrows("load(MAX)", IllegalArgumentException.class, () -> m.load(Integer.MAX_VALUE));
        Check.due("errorOffset() after loads that threw", -1, m.errorOffset());
        Check.due("load of the first 11 bytes", 1, m.load(11));
        for (int length = 0; length < 11; length++) {
            Check.put(m, "models;a=x;");
            Check.due("load(" + length + ")", length == 7 ? 0 : TaylorModels.SYNTAX_ERROR, m.load(length));
            Check.due("its offset", length < 6 ? 0 : length == 7 ? -1 : length, m.errorOffset());
        }
    }

    private static void bufferIsEmptyAfterwards() {
        TaylorModels m = new TaylorModels();
        Check.put(m, "models;a=1;");
        m.load(3);
        Check.due("offset at the text's end, as the word ends too early", 0, m.errorOffset());
        Check.dueThrows("load(1) after an error", IllegalArgumentException.class, () -> m.load(1));
        Check.due("the offset stays when load throws", 0, m.errorOffset());
        Check.put(m, "models;a=1;");
        Check.due("load(7)", 0, m.load(7));
        Check.dueThrows("load(1) after a success", IllegalArgumentException.class, () -> m.load(1));
        Check.due("load(0) is a syntax error again", TaylorModels.SYNTAX_ERROR, m.load(0));
        Check.due("load(7), errorOffset()", 0, m.errorOffset());
    }

    private static void errorLeavesData() {
        TaylorModels m = Check.loaded("models;a=1;b=x;");
        long sum = m.checksum();
        Check.due("load of a text with an error late", TaylorModels.UNDEFINED, Check.load(m, "models;a=7;b=c;"));
        Check.due("its offset", 13, m.errorOffset());
        Check.due("checksum() stays", sum, m.checksum());
        Check.due("one change can be undone", 0, m.undo());
        Check.due("undo leaves the offset", 13, m.errorOffset());
        Check.due("defined() after undo", 0, m.defined());
        Check.due("load of a text without error", 1, Check.load(m, "models;h=1;"));
        Check.due("no error now", -1, m.errorOffset());
        Check.due("load replaces all", 1, Check.load(m, "models;c=1;"));
        Check.due("defined() of c alone", 4, m.defined());
    }

    private static void definedSet() {
        TaylorModels m = Check.loaded("models;h=1;a=1;c=1;a=2;");
        Check.due("defined()", 128 + 1 + 4, m.defined());
        Check.due("load counts models, not statements", 3, Check.load(m, "models;h=1;a=1;c=1;a=2;"));
        m.clear(7);
        Check.due("defined() after clear", 5, m.defined());
        m.add(1, 0, 2);
        Check.due("defined() after add", 7, m.defined());
        Check.due("an empty list of statements", 0, Check.load(m, "models;"));
        Check.due("defined() then", 0, m.defined());
    }
}
