import java.math.BigInteger;

/** The sheets of part 5 of the terms and promises 25 to 32, sentence by sentence, just inside and just outside of each edge. */
public final class SheetsEdgesTest {
    private static final Edges edges = new Edges("SheetsEdgesTest");
    private static final int LEAST = -2147483648;

    public static void main(String[] args) {
        sheets();
        newRows();
        findings();
        loses();
        puts();
        lowestBits();
        gets();
        copies();
        copiesNotSoMany();
        writes();
        counts();
        digests();
        longsThatWrap();
        manyCalls();
        edges.end();
    }

    private static OneKnife row(OneKnife knife, int s, int type, int... items) {
        knife.sheet(s, type, items.length);
        for (int i = 0; i < items.length; i++) {
            knife.put(s, type, i, items[i]);
        }
        return knife;
    }

    private static String items(OneKnife knife, int s, int type, int number) {
        StringBuilder all = new StringBuilder();
        for (int i = 0; i < number; i++) {
            all.append(i == 0 ? "" : " ").append(knife.get(s, type, i));
        }
        return all.toString();
    }

    private static void sheets() {
        edges.says("SHEETS 0 .. 3 are LOST (at first) or a row of a TYPE: 0 bytes, 1 shorts, 2 ints, of 0 to 60 items (0 at "
            + "first).");
        OneKnife knife = new OneKnife();
        for (int s = 0; s < 4; s++) {
            edges.is("lost at first", knife.write(s), -11);
            edges.is("a row", knife.sheet(s, 0, 1), 1);
            edges.is("lost no longer", knife.write(s), 1);
        }
        edges.is("sheet -1", knife.sheet(-1, 0, 1), -2);
        edges.is("sheet 4", knife.sheet(4, 0, 1), -2);
        edges.is("type -1", knife.sheet(0, -1, 1), -2);
        edges.is("type 3", knife.sheet(0, 3, 1), -2);
        edges.is("61 items", knife.sheet(0, 2, 61), -2);
        edges.is("far more items", knife.sheet(0, 2, 2147483647), -2);
        for (int type = 0; type < 3; type++) {
            edges.is("no items", knife.sheet(1, type, 0), 0);
            edges.is("no item 0", knife.put(1, type, 0, 1), -12);
            edges.is("60 items", knife.sheet(1, type, 60), 60);
            edges.is("item 59", knife.put(1, type, 59, 1), 1);
            edges.is("no item 60", knife.put(1, type, 60, 1), -12);
        }
    }

    private static void newRows() {
        edges.says("A SHEET is a new row of a TYPE with n items: n. BAD: SHEET, TYPE, above 60; SIZE.");
        OneKnife knife = row(new OneKnife(), 2, 2, 7, 8, 9);
        edges.is("-1 items", knife.sheet(2, 2, -1), -15);
        edges.is("the least number of items", knife.sheet(2, 2, LEAST), -15);
        edges.is("it is as it was", items(knife, 2, 2, 4), "7 8 9 " + LEAST);
        edges.is("another type", knife.sheet(2, 1, 3), 3);
        edges.is("0 at first", items(knife, 2, 1, 4), "0 0 0 " + LEAST);
        knife.put(2, 1, 0, 5);
        knife.put(2, 1, 2, 5);
        edges.is("the same type", knife.sheet(2, 1, 3), 3);
        edges.is("0 at first", items(knife, 2, 1, 3), "0 0 0");
        knife.put(2, 1, 2, 5);
        edges.is("fewer items", knife.sheet(2, 1, 1), 1);
        edges.is("more items", knife.sheet(2, 1, 4), 4);
        edges.is("0 at first", items(knife, 2, 1, 4), "0 0 0 0");
        knife.put(2, 1, 0, 5);
        knife.lose(2);
        knife.sheet(2, 1, 1);
        edges.is("0 at first, lost between", items(knife, 2, 1, 1), "0");
    }

    private static void findings() {
        edges.says("FINDINGS (answers -10 less the number; they change nothing but count() 8): 1 NULL: the SHEET is LOST; 2 "
            + "INDEX: there is no such item; 3 CAST: it has another TYPE; 4 STORE: unlike TYPES; 5 SIZE: below 0.");
        OneKnife knife = row(row(new OneKnife(), 0, 0, 1, 2), 1, 1, 1, 2);
        edges.is("none", knife.count(8), 0);
        edges.is("null", knife.lose(2), -11);
        edges.is("null", knife.count(8), 1);
        edges.is("index", knife.put(0, 0, 2, 9), -12);
        edges.is("index", knife.count(8), 2);
        edges.is("cast", knife.put(0, 1, 1, 9), -13);
        edges.is("cast", knife.count(8), 3);
        edges.is("store", knife.copy(0, 0, 1, 0, 1), -14);
        edges.is("store", knife.count(8), 4);
        edges.is("size", knife.sheet(0, 0, -1), -15);
        edges.is("size", knife.count(8), 5);
        edges.is("what answers well leaves it", knife.put(0, 0, 1, 2), 1);
        edges.is("what answers well leaves it", knife.count(8), 5);
        edges.is("bad leaves it", knife.put(0, 3, 1, 2), -2);
        edges.is("bad leaves it", knife.count(8), 5);
        edges.is("nothing else is changed", items(knife, 0, 0, 2) + " " + items(knife, 1, 1, 2), "1 2 1 2");
    }

    private static void loses() {
        edges.says("It is LOST: how many items it had. BAD; NULL.");
        OneKnife knife = row(row(new OneKnife(), 0, 0), 3, 2, 1, 2, 3);
        edges.is("sheet -1", knife.lose(-1), -2);
        edges.is("sheet 4", knife.lose(4), -2);
        edges.is("no items", knife.lose(0), 0);
        edges.is("three items", knife.lose(3), 3);
        edges.is("lost", knife.lose(0), -11);
        edges.is("lost", knife.lose(3), -11);
    }

    private static void puts() {
        edges.says("Item i, treated as of a TYPE, becomes v (the lowest bits that it has): 1. BAD; NULL; CAST; INDEX.");
        OneKnife knife = row(new OneKnife(), 0, 1, 1, 2, 3);
        edges.is("sheet -1", knife.put(-1, 1, 0, 9), -2);
        edges.is("sheet 4", knife.put(4, 1, 0, 9), -2);
        edges.is("type -1", knife.put(0, -1, 0, 9), -2);
        edges.is("type 3", knife.put(0, 3, 0, 9), -2);
        edges.is("bad ahead of null", knife.put(1, 3, 0, 9), -2);
        edges.is("null ahead of index", knife.put(1, 1, -1, 9), -11);
        edges.is("type 0", knife.put(0, 0, 0, 9), -13);
        edges.is("type 2", knife.put(0, 2, 0, 9), -13);
        edges.is("cast ahead of index", knife.put(0, 2, 3, 9), -13);
        edges.is("item -1", knife.put(0, 1, -1, 9), -12);
        edges.is("item 3", knife.put(0, 1, 3, 9), -12);
        edges.is("the least item", knife.put(0, 1, LEAST, 9), -12);
        edges.is("the greatest item", knife.put(0, 1, 2147483647, 9), -12);
        edges.is("nothing is changed", items(knife, 0, 1, 3), "1 2 3");
        edges.is("item 0", knife.put(0, 1, 0, 4), 1);
        edges.is("item 2", knife.put(0, 1, 2, 6), 1);
        edges.is("both are changed", items(knife, 0, 1, 3), "4 2 6");
    }

    private static void lowestBits() {
        edges.says("(the lowest bits that it has)");
        int[][] of = {{127, 127, 127}, {128, -128, 128}, {-128, -128, -128}, {-129, 127, -129}, {255, -1, 255}, {256, 0, 256},
            {32767, -1, 32767}, {32768, 0, -32768}, {-32768, 0, -32768}, {-32769, -1, 32767}, {65535, -1, -1}, {65536, 0, 0},
            {2147483647, -1, -1}, {LEAST, 0, 0}};
        OneKnife knife = row(row(row(new OneKnife(), 0, 0, 0), 1, 1, 0), 2, 2, 0);
        for (int[] o : of) {
            for (int type = 0; type < 3; type++) {
                knife.put(type, type, 0, o[0]);
                edges.is(o[0] + " as type " + type, knife.get(type, type, 0), type == 2 ? o[0] : o[1 + type]);
            }
        }
    }

    private static void gets() {
        edges.says("Item i of it. BAD: the least int; so are NULL, CAST, INDEX (count() 8 tells).");
        OneKnife knife = row(new OneKnife(), 0, 1, 1, 2, 3);
        int[][] bad = {{-1, 1, 0}, {4, 1, 0}, {0, -1, 0}, {0, 3, 0}};
        for (int[] b : bad) {
            edges.is("bad", knife.get(b[0], b[1], b[2]), LEAST);
            edges.is("bad", knife.count(8), 0);
        }
        int[][] no = {{1, 1, 0, 1}, {1, 1, -1, 1}, {0, 0, 0, 3}, {0, 2, 3, 3}, {0, 1, -1, 2}, {0, 0, 0, 3}, {0, 1, 3, 2}};
        for (int[] n : no) {
            edges.is("no item", knife.get(n[0], n[1], n[2]), LEAST);
            edges.is("no item", knife.count(8), n[3]);
        }
        edges.is("item 0", knife.get(0, 1, 0), 1);
        edges.is("item 2", knife.get(0, 1, 2), 3);
        edges.is("a finding stays", knife.count(8), 2);
        OneKnife least = row(new OneKnife(), 3, 2, LEAST);
        edges.is("the least int is an item, too", least.get(3, 2, 0), LEAST);
        edges.is("and no finding", least.count(8), 0);
    }

    private static void copies() {
        edges.says("n items of SHEET s, from i on, come to SHEET t (perhaps s, as they were), from j on: 1. BAD: the SHEETS; "
            + "NULL: s, t; STORE; INDEX: below 0, not so many.");
        OneKnife knife = row(row(row(new OneKnife(), 0, 0, 1, 2, 3, 4, 5), 1, 0, 6, 7, 8), 2, 2, 0);
        int[][] bad = {{-1, 0}, {4, 0}, {0, -1}, {0, 4}, {3, 4}, {-1, 3}};
        for (int[] b : bad) {
            edges.is("sheets " + b[0] + " " + b[1], knife.copy(b[0], 0, b[1], 0, 1), -2);
        }
        edges.is("s is lost", knife.copy(3, 0, 0, 0, 1), -11);
        edges.is("t is lost", knife.copy(0, 0, 3, 0, 1), -11);
        edges.is("both are lost", knife.copy(3, 0, 3, 0, 1), -11);
        edges.is("null ahead of index", knife.copy(3, -1, 0, 0, 1), -11);
        edges.is("unlike types", knife.copy(0, 0, 2, 0, 1), -14);
        edges.is("unlike types, no items", knife.copy(2, 0, 0, 0, 0), -14);
        edges.is("store ahead of index", knife.copy(0, 5, 2, 1, 1), -14);
        edges.is("nothing is changed", items(knife, 0, 0, 5) + " " + items(knife, 1, 0, 3), "1 2 3 4 5 6 7 8");
        edges.is("three items", knife.copy(0, 1, 1, 0, 3), 1);
        edges.is("three items", items(knife, 0, 0, 5) + " " + items(knife, 1, 0, 3), "1 2 3 4 5 2 3 4");
        edges.is("one item onto the last", knife.copy(1, 0, 0, 4, 1), 1);
        edges.is("one item onto the last", items(knife, 0, 0, 5), "1 2 3 4 2");
        edges.is("rightward onto itself", knife.copy(0, 0, 0, 1, 4), 1);
        edges.is("rightward onto itself", items(knife, 0, 0, 5), "1 1 2 3 4");
        edges.is("leftward onto itself", knife.copy(0, 1, 0, 0, 4), 1);
        edges.is("leftward onto itself", items(knife, 0, 0, 5), "1 2 3 4 4");
        knife.sheet(3, 0, 2);
        edges.is("to sheet 3", knife.copy(0, 2, 3, 0, 2), 1);
        edges.is("from sheet 3", knife.copy(3, 1, 0, 0, 1), 1);
        edges.is("to sheet 3 and back", items(knife, 3, 0, 2) + " " + items(knife, 0, 0, 5), "3 4 4 2 3 4 4");
    }

    private static void copiesNotSoMany() {
        edges.says("INDEX: below 0, not so many.");
        OneKnife knife = row(row(new OneKnife(), 0, 1, 1, 2, 3, 4, 5), 1, 1, 6, 7, 8);
        int[][] inside = {{0, 0, 0}, {5, 3, 0}, {0, 0, 3}, {2, 0, 3}, {4, 2, 1}};
        int[][] outside = {{-1, 0, 1}, {0, -1, 1}, {0, 0, -1}, {-1, 0, 0}, {0, -1, 0}, {6, 0, 0}, {0, 4, 0},
            {0, 0, 4}, {3, 0, 3}, {0, 1, 3}, {5, 0, 1}, {0, 3, 1}, {2147483647, 0, 1}, {0, 2147483647, 1}, {0, 0, 2147483647}, {1, 0, 2147483647},
            {2147483647, 2147483647, 2147483647},
            {LEAST, 0, 1}, {0, LEAST, 1}, {0, 0, LEAST}, {5, 3, LEAST}, {-1, -1, 2}, {-2147483647, 0, 2147483647}};
        for (int[] o : outside) {
            edges.is("from " + o[0] + " to " + o[1] + ": " + o[2], knife.copy(0, o[0], 1, o[1], o[2]), -12);
            edges.is("nothing is changed", items(knife, 0, 1, 5) + " " + items(knife, 1, 1, 3), "1 2 3 4 5 6 7 8");
        }
        for (int[] in : inside) {
            edges.is("from " + in[0] + " to " + in[1] + ": " + in[2], knife.copy(0, in[0], 1, in[1], in[2]), 1);
        }
        edges.is("all are copied", items(knife, 1, 1, 3), "3 4 5");
        edges.is("more there than here", knife.copy(1, 0, 0, 2, 3), 1);
        edges.is("more there than here", knife.copy(1, 0, 0, 0, 4), -12);
    }

    private static void writes() {
        edges.says("Who was first to be chosen in TICKS from 0 on (NONE: nobody) comes to a SHEET from item 0 on, as many as "
            + "there are items and TICKS: how many. BAD; NULL.");
        OneKnife knife = Due.by(Due.with("p60,d9,o1:w2", "p60,d9,o1:w1"), 0, 0, 2);
        edges.is("sheet -1", knife.write(-1), -2);
        edges.is("sheet 4", knife.write(4), -2);
        edges.is("bad is no finding", knife.count(8), 0);
        edges.is("lost", knife.write(0), -11);
        knife.rule(3, 4);
        for (int type = 0; type < 3; type++) {
            edges.is("less items than ticks", row(knife, 3, type, 9, 9, 9).write(3), 3);
            edges.is("less items than ticks", items(knife, 3, type, 3), "-1 0 0");
            edges.is("as many", row(knife, 3, type, 9, 9, 9, 9).write(3), 4);
            edges.is("as many", items(knife, 3, type, 4), "-1 0 0 -1");
            edges.is("more items than ticks", row(knife, 3, type, 9, 9, 9, 9, 9).write(3), 4);
            edges.is("more items than ticks", items(knife, 3, type, 5), "-1 0 0 -1 9");
        }
        edges.is("no items", row(knife, 3, 0).write(3), 0);
        knife.rule(3, 120);
        knife.sheet(3, 0, 60);
        edges.is("60 items", knife.write(3), 60);
        knife.rule(3, 1);
        edges.is("one tick", knife.write(3), 1);
        OneKnife last = Due.type(new OneKnife(), 7, "p60,d9,o0:w1");
        last.sheet(0, 0, 1);
        last.write(0);
        edges.is("task 7", last.get(0, 0, 0), 7);
    }

    private static void counts() {
        edges.says("0 THINGS, 1 TASKS that ARE (bits), 2 bytes of all texts, 3 DROPPED ones (bits), 4 RULE, 5 LENDING, 6 "
            + "HANDS, 7 TICKS, 8 the number of the latest FINDING (0 before any). BAD.");
        OneKnife knife = new OneKnife();
        int[] first = {0, 0, 0, 0, 0, 0, 1, 60, 0};
        for (int what = 0; what < 9; what++) {
            edges.is("at first " + what, knife.count(what), first[what]);
        }
        edges.is("what -1", knife.count(-1), -2);
        edges.is("what 9", knife.count(9), -2);
        edges.is("the greatest what", knife.count(2147483647), -2);
        for (int i = 0; i < 6; i++) {
            knife.thing(0, 1);
        }
        for (int i = 0; i < 8; i++) {
            Due.type(knife, i, "p9,d9,o0:w1");
        }
        knife.type(6, ',');
        knife.drop(0, true);
        knife.drop(7, true);
        Due.by(knife, 2, 2, 3);
        knife.rule(3, 120);
        knife.sheet(0, 0, -1);
        int[] then = {6, 62, 89, 129, 2, 2, 3, 120, 5};
        for (int what = 0; what < 9; what++) {
            edges.is("then " + what, knife.count(what), then[what]);
        }
    }

    private static OneKnife closed() {
        OneKnife knife = Due.by(Due.withTools(2, "p60,d60,o0:t0,w1,t1,w1", "p60,d60,o0:t1,w1,t0,w1", "p7,d2,o3:w2"), 0, 0, 2);
        knife.drop(7, true);
        knife.rule(3, 77);
        return knife;
    }

    private static BigInteger more(BigInteger h, long v) {
        return h.multiply(BigInteger.valueOf(31)).add(BigInteger.valueOf(v));
    }

    /** The digest without any wrapping. */
    private static BigInteger digestOf(OneKnife knife) {
        BigInteger h = BigInteger.valueOf(17);
        for (int what = 0; what <= 7; what++) {
            h = more(h, knife.count(what));
        }
        for (int i = 0; i < 8; i++) {
            h = more(h, knife.fault(i));
            for (int what = 0; what <= 6; what++) {
                h = more(h, knife.told(i, what));
            }
        }
        int ticks = knife.count(7);
        for (int t = 0; t < ticks; t++) {
            h = more(h, knife.who(t, 0));
        }
        return more(more(more(h, knife.late()), knife.ring(0)), knife.ring(1));
    }

    private static void digests() {
        edges.says("h is 17; h becomes 31 h and each of: count() 0 to 7; of each TASK fault(), told() 0 to 6; who(t, 0) of all "
            + "TICKS; late(); ring() 0, 1; as longs that wrap.");
        OneKnife empty = new OneKnife();
        edges.is("of a new object", empty.digest(), digestOf(empty).longValue());
        edges.is("there is a ring", closed().ring(1), 3);
        for (int ticks : new int[] {1, 2, 77, 119, 120}) {
            OneKnife ring = closed();
            ring.rule(3, ticks);
            edges.is(ticks + " ticks", ring.digest(), digestOf(ring).longValue());
        }
        OneKnife knife = closed();
        long was = knife.digest();
        knife.lose(0);
        edges.is("a finding is not in it", knife.digest(), was);
        knife.set(7, 1, 50);
        edges.is("a worth is not in it", knife.digest(), was);
    }

    private static void longsThatWrap() {
        edges.says("as longs that wrap.");
        boolean above = false;
        boolean below = false;
        OneKnife knife = closed();
        for (int ticks = 1; ticks <= 2; ticks++) {
            knife.rule(3, ticks);
            BigInteger whole = digestOf(knife);
            edges.is("the whole number is no long", whole.bitLength() > 63 ? 1 : 0, 1);
            edges.is("its lowest bits are the digest", knife.digest(), whole.longValue());
        }
        for (int worth = 1; worth <= 60; worth++) {
            knife.rule(3, worth);
            above |= knife.digest() > 0;
            below |= knife.digest() < 0;
        }
        edges.is("above and below 0", above && below ? 1 : 0, 1);
    }

    private static void manyCalls() {
        edges.says("An object is used for at most 512 calls after it has been made");
        OneKnife knife = closed();
        int calls = 2 + 22 + 22 + 11 + 3 + 1 + 1;
        long was = knife.digest();
        for (calls++; calls < 511; calls++) {
            knife.digest();
        }
        edges.is("the last call", knife.digest(), was);
    }
}
