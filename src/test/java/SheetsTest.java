/** Promises 25 to 32: sheets, their findings, counts and the digest. */
public final class SheetsTest {
    private static final Due due = new Due("SheetsTest");
    private static final int LEAST = Integer.MIN_VALUE;
    private static final int[] NO_SHEETS = {-2147483648, -1, 4, 2147483647};
    private static final int[] NO_TYPES = {-2147483648, -1, 3, 2147483647};

    public static void main(String[] args) {
        sheets();
        loses();
        puts();
        trims();
        gets();
        copies();
        copiesOntoItself();
        copyRefusals();
        writes();
        counts();
        digests();
        refusalsChangeNothing();
        due.end();
    }

    private static void sheets() {
        OneKnife knife = new OneKnife();
        for (int s : NO_SHEETS) {
            due.is("sheet", knife.sheet(s, 0, 1), -2);
        }
        for (int type : NO_TYPES) {
            due.is("sheet", knife.sheet(0, type, 1), -2);
        }
        due.is("61 items", knife.sheet(0, 0, 61), -2);
        due.is("bad ahead of size", knife.sheet(0, 3, -1), -2);
        due.is("no finding", knife.count(8), 0);
        due.is("size", knife.sheet(0, 0, -1), -15);
        due.is("size", knife.sheet(0, 0, -2147483648), -15);
        due.is("finding", knife.count(8), 5);
        due.is("still lost", knife.lose(0), -11);
        due.is("empty", knife.sheet(0, 0, 0), 0);
        due.is("60 items", knife.sheet(3, 2, 60), 60);
        for (int i = 0; i < 60; i++) {
            due.is("0 at first", knife.get(3, 2, i), 0);
        }
        knife.put(3, 2, 5, 9);
        due.is("a new row", knife.sheet(3, 1, 6), 6);
        due.is("a new row", knife.get(3, 1, 5), 0);
        due.is("size leaves it as it is", knife.sheet(3, 0, -1), -15);
        due.is("size leaves it as it is", knife.lose(3), 6);
    }

    private static void loses() {
        OneKnife knife = new OneKnife();
        for (int s : NO_SHEETS) {
            due.is("lose", knife.lose(s), -2);
        }
        due.is("no finding", knife.count(8), 0);
        due.is("lost", knife.lose(2), -11);
        due.is("finding", knife.count(8), 1);
        knife.sheet(2, 1, 7);
        due.is("lose", knife.lose(2), 7);
        due.is("lose again", knife.lose(2), -11);
        due.is("put", knife.put(2, 1, 0, 1), -11);
    }

    private static void puts() {
        OneKnife knife = new OneKnife();
        for (int s : NO_SHEETS) {
            due.is("put", knife.put(s, 0, 0, 1), -2);
        }
        for (int type : NO_TYPES) {
            due.is("put, bad ahead of null", knife.put(0, type, 0, 1), -2);
        }
        due.is("no finding", knife.count(8), 0);
        due.is("null ahead of index", knife.put(0, 0, -1, 1), -11);
        knife.sheet(0, 1, 3);
        due.is("cast ahead of index", knife.put(0, 0, 3, 1), -13);
        due.is("finding", knife.count(8), 3);
        due.is("cast", knife.put(0, 2, 0, 1), -13);
        int[] no = {-2147483648, -1, 3, 2147483647};
        for (int i : no) {
            due.is("index", knife.put(0, 1, i, 1), -12);
        }
        due.is("finding", knife.count(8), 2);
        due.is("put", knife.put(0, 1, 2, 5), 1);
        due.is("a finding stays", knife.count(8), 2);
        due.is("get", knife.get(0, 1, 2), 5);
        due.is("its neighbour", knife.get(0, 1, 1), 0);
    }

    private static void trims() {
        OneKnife knife = new OneKnife();
        for (int type = 0; type < 3; type++) {
            knife.sheet(type, type, 1);
        }
        int[][] of = {{-1, -1, -1, -1}, {127, 127, 127, 127}, {128, -128, 128, 128}, {255, -1, 255, 255}, {256, 0, 256, 256},
            {32768, 0, -32768, 32768}, {65535, -1, -1, 65535}, {65536, 0, 0, 65536}, {-129, 127, -129, -129},
            {2147483647, -1, -1, 2147483647}, {-2147483648, 0, 0, -2147483648}};
        for (int[] o : of) {
            for (int type = 0; type < 3; type++) {
                due.is("put", knife.put(type, type, 0, o[0]), 1);
                due.is("type " + type + " of " + o[0], knife.get(type, type, 0), o[1 + type]);
            }
        }
    }

    private static void gets() {
        OneKnife knife = new OneKnife();
        for (int s : NO_SHEETS) {
            due.is("get", knife.get(s, 0, 0), LEAST);
        }
        for (int type : NO_TYPES) {
            due.is("get", knife.get(0, type, 0), LEAST);
        }
        due.is("no finding", knife.count(8), 0);
        due.is("null", knife.get(0, 0, 0), LEAST);
        due.is("null", knife.count(8), 1);
        knife.sheet(0, 2, 2);
        due.is("cast", knife.get(0, 1, 9), LEAST);
        due.is("cast", knife.count(8), 3);
        due.is("index", knife.get(0, 2, 2), LEAST);
        due.is("index", knife.count(8), 2);
        due.is("get", knife.get(0, 2, 1), 0);
        due.is("index", knife.get(0, 2, -1), LEAST);
    }

    private static void row(OneKnife knife, int s, int type, String items) {
        knife.sheet(s, type, items.length());
        for (int i = 0; i < items.length(); i++) {
            knife.put(s, type, i, items.charAt(i) - '0');
        }
    }

    private static void rowIs(String what, OneKnife knife, int s, int type, String items) {
        for (int i = 0; i < items.length(); i++) {
            due.is(what + ": " + i, knife.get(s, type, i), items.charAt(i) - '0');
        }
    }

    private static void copies() {
        OneKnife knife = new OneKnife();
        row(knife, 0, 1, "12345");
        row(knife, 1, 1, "000");
        due.is("copy", knife.copy(0, 1, 1, 0, 3), 1);
        rowIs("copied", knife, 1, 1, "234");
        rowIs("as it was", knife, 0, 1, "12345");
        due.is("copy the last", knife.copy(0, 4, 1, 2, 1), 1);
        rowIs("copied", knife, 1, 1, "235");
        due.is("copy none", knife.copy(0, 5, 1, 3, 0), 1);
        rowIs("copied none", knife, 1, 1, "235");
    }

    private static void copiesOntoItself() {
        OneKnife knife = new OneKnife();
        row(knife, 2, 2, "123456");
        due.is("rightward", knife.copy(2, 0, 2, 2, 4), 1);
        rowIs("rightward", knife, 2, 2, "121234");
        row(knife, 2, 2, "123456");
        due.is("leftward", knife.copy(2, 2, 2, 0, 4), 1);
        rowIs("leftward", knife, 2, 2, "345656");
        due.is("in place", knife.copy(2, 0, 2, 0, 6), 1);
        rowIs("in place", knife, 2, 2, "345656");
    }

    private static void copyRefusals() {
        OneKnife knife = new OneKnife();
        knife.sheet(0, 1, 5);
        for (int s : NO_SHEETS) {
            due.is("copy", knife.copy(s, 0, 0, 0, 1), -2);
            due.is("copy", knife.copy(0, 0, s, 0, 1), -2);
            due.is("bad ahead of null", knife.copy(3, 0, s, 0, 1), -2);
        }
        due.is("no finding", knife.count(8), 0);
        due.is("null", knife.copy(0, 0, 1, 0, 1), -11);
        due.is("null", knife.copy(1, 0, 0, 0, 1), -11);
        knife.sheet(1, 2, 3);
        due.is("store ahead of index", knife.copy(0, -1, 1, 0, 1), -14);
        due.is("store, of none", knife.copy(0, 0, 1, 0, 0), -14);
        due.is("finding", knife.count(8), 4);
        knife.sheet(1, 1, 3);
        int[][] no = {{-1, 0, 1}, {0, -1, 1}, {0, 0, -1}, {0, 0, 4}, {3, 0, 3}, {0, 3, 1}, {5, 0, 1}, {6, 0, 0}, {0, 4, 0},
            {2147483647, 0, 2147483647}, {0, 2147483647, 1}, {1, 0, 2147483647}, {-2147483648, 0, -2147483648}};
        for (int[] n : no) {
            due.is("index " + n[0] + " " + n[1] + " " + n[2], knife.copy(0, n[0], 1, n[1], n[2]), -12);
        }
        due.is("finding", knife.count(8), 2);
    }

    private static void writes() {
        OneKnife knife = Due.with("p9,d9,o1:w2", "p9,d9,o1:w1");
        for (int s : NO_SHEETS) {
            due.is("write", knife.write(s), -2);
        }
        due.is("null", knife.write(0), -11);
        due.is("null", knife.count(8), 1);
        knife.rule(3, 5);
        for (int type = 0; type < 3; type++) {
            knife.sheet(type, type, 7);
            knife.put(type, type, 5, 7);
            due.is("as many as ticks", knife.write(type), 5);
            int[] want = {-1, 0, 0, 1, -1, 7, 0};
            for (int i = 0; i < 7; i++) {
                due.is("written " + i, knife.get(type, type, i), want[i]);
            }
        }
        knife.sheet(3, 0, 3);
        due.is("as many as items", knife.write(3), 3);
        knife.sheet(3, 0, 0);
        due.is("no items", knife.write(3), 0);
    }

    private static void counts() {
        OneKnife knife = Due.withTools(2, "p9,d9,o0:w1", "p9,d9,o0:w", "p9,d9,o0:w1");
        knife.drop(2, true);
        knife.rule(0, 1);
        knife.rule(1, 2);
        knife.rule(2, 3);
        knife.rule(3, 77);
        int[] want = {2, 1, 32, 4, 1, 2, 3, 77, 0};
        for (int what = 0; what < 9; what++) {
            due.is("count " + what, knife.count(what), want[what]);
        }
        due.is("count -1", knife.count(-1), -2);
        due.is("count 9", knife.count(9), -2);
        due.is("count", knife.count(2147483647), -2);
    }

    private static long digestOf(OneKnife knife) {
        long h = 17;
        for (int what = 0; what < 8; what++) {
            h = h * 31 + knife.count(what);
        }
        for (int i = 0; i < 8; i++) {
            h = h * 31 + knife.fault(i);
            for (int what = 0; what < 7; what++) {
                h = h * 31 + knife.told(i, what);
            }
        }
        int ticks = knife.count(7);
        for (int t = 0; t < ticks; t++) {
            h = h * 31 + knife.who(t, 0);
        }
        h = h * 31 + knife.late();
        h = h * 31 + knife.ring(0);
        return h * 31 + knife.ring(1);
    }

    private static void digests() {
        long empty = new OneKnife().digest();
        due.is("digest of a new one", empty, digestOf(new OneKnife()));
        OneKnife knife = new OneKnife();
        knife.lose(0);
        due.is("a finding is not in it", knife.digest(), empty);
        Due.type(knife, 0, "p9,d9,o0:w3");
        Due.type(knife, 6, "p9,d2,o0:w5");
        due.is("digest", knife.digest(), digestOf(knife));
        knife.rule(3, 120);
        knife.rule(2, 3);
        due.is("digest", knife.digest(), digestOf(knife));
        due.is("it is another one", knife.digest() == empty ? 1 : 0, 0);
    }

    private static void refusalsChangeNothing() {
        OneKnife knife = Due.withTools(1, "p9,d9,o0:t0,w3", "p9,d7,o0:w2");
        knife.sheet(0, 0, 2);
        long before = knife.digest();
        knife.thing(3, 1);
        knife.broken(1, 0, 5);
        knife.type(0, 256);
        knife.wipe(8);
        knife.set(0, 0, 100);
        knife.drop(-1, true);
        knife.rule(3, 0);
        knife.sheet(0, 0, 61);
        knife.sheet(0, 0, -1);
        knife.put(0, 1, 0, 1);
        knife.copy(0, 0, 1, 0, 1);
        knife.best(9);
        knife.best(0);
        knife.shed(0);
        knife.mended(0);
        knife.whatever(0, 2, 0);
        knife.slack(0, 1);
        knife.fits(0);
        due.is("nothing changed", knife.digest(), before);
        due.is("the sheet is as it was", knife.lose(0), 2);
    }
}
