import java.io.IOException;

/** Each sentence of the terms III and of the promises 23 to 36 that names a boundary case. */
public final class LayingEdgeTests {
    private static final int MIN = Integer.MIN_VALUE;
    private static final int MAX = Integer.MAX_VALUE;
    private static final String HEAD = "drum tracks 1 sectors 4 wait 0 quick 0 mul 0;";
    private static final String TWO = "drum tracks 2 sectors 4 wait 0 quick 0 mul 0;";
    private static final String EIGHT = "drum tracks 1 sectors 8 wait 0 quick 0 mul 0;";
    private static final String NO_STEP = HEAD + "word x 5;word y 6 at 0;";
    /** a at 1, x at 0 (4), b at 2 (6): TIME 7. */
    private static final String SMALL =
            "drum tracks 1 sectors 4 wait 0 quick 0 mul 2;word x 3;step a load x b;step b halt;";
    private static final String FIVE_LOOSE = EIGHT
            + "word p 1;word q 1;word r 1;step a add p b;step b halt;";
    /** p is FIXED at 0, q is at 1, a at 2. */
    private static final String ONE_FIXED = "drum tracks 2 sectors 3 wait 0 quick 0 mul 0;"
            + "word p 1 at 0;word q 1;step a halt;";

    private static final String[] DRUMS = {
        "drum tracks 1 sectors 6 wait 0 quick 0 mul 2;",
        "drum tracks 1 sectors 6 wait 1 quick 1 mul 2;",
        "drum tracks 3 sectors 2 wait 1 quick 0 mul 3;",
        "drum tracks 2 sectors 3 wait 1 quick 1 mul 9;",
        "drum tracks 2 sectors 4 wait 3 quick 2 mul 3;",
        "drum tracks 1 sectors 12 wait 9 quick 4 mul 9;",
        "drum tracks 3 sectors 3 wait 2 quick 0 mul 1;"};
    /** ITEMS that end at once, that go round many times, and that go round with another WORD. */
    private static final String[] RUNS = {
        "word x 3 #;step a load x b #;step b halt #;",
        "word x 3 #;step a mul x b #;step b halt #;",
        "word x 3 #;step a mul x b #;step b less a a #;",
        "word x -30 #;word n 1 at 0;step s load x a at 1;step a add n b #;step b less a c #;"
            + "step c halt at 2;",
        "word x 3 #;word y 4 at 0;step a add x b #;step b move a 1 a #;",
        "word x -9 #;step a mul x a at 5;step b less a a #;word y 1 #;",
        "step a less b c at 2;word x -2 #;step b mul x a #;step c add x a #;"};

    private static final Sheet sheet = new Sheet();

    private static DrumPlacer of(String text) {
        return Sheet.of(text);
    }

    /** ADDRESSES of all ITEMS, two digits each, behind a 1. */
    private static long laid(DrumPlacer x) {
        long all = 1;
        for (int item = 0; item < x.count(5) + x.count(6); item++) {
            all = all * 100 + x.item(item, 1);
        }
        return all;
    }

    private static long laidBy(DrumPlacer x, int law) {
        long all = 1;
        for (int item = 0; item < x.count(5) + x.count(6); item++) {
            all = all * 100 + x.address(law, item);
        }
        return all;
    }

    private static long addresses(int... each) {
        long all = 1;
        for (int address : each) {
            all = all * 100 + address;
        }
        return all;
    }

    // ---- III

    private static void laying() {
        sheet.under("III");
        sheet.says("each ITEM that is not FIXED at an ADDRESS of its own (none where another one"
                + " is)");
        String[] full = {
            "drum tracks 1 sectors 2 wait 3 quick 1 mul 1;word x 1;step a mul x a;",
            "drum tracks 2 sectors 2 wait 0 quick 1 mul 0;word x 1 at 3;word y 1;step a load x b;"
                + "step b add y a;",
            HEAD + "word x 1;word y 1 at 0;step a sub x b at 3;step b halt;",
        };
        for (String text : full) {
            DrumPlacer x = of(text);
            for (int law = 0; law <= 2; law++) {
                x.lays(law);
                int seen = 0;
                for (int a = 0; a < x.count(0) * x.count(1); a++) {
                    sheet.due("there is one at " + a + " by LAW " + law, x.item(x.at(a), 1), a);
                    seen |= 1 << x.at(a);
                }
                sheet.due("each once", seen, (1 << x.count(0) * x.count(1)) - 1);
                for (int k = 0; k < x.count(5) + x.count(6); k++) {
                    sheet.due("FIXED ones stay", x.item(k, 2) == 1
                            ? x.address(law, k) - of(text).item(k, 1) : 0, 0);
                }
            }
            sheet.due("no room to move", x.idle(), 0);
            sheet.due("no room to move", x.best(), -1);
        }
    }

    private static void inOrder() {
        sheet.under("III");
        sheet.says("LAW 0: ITEMS in order, each at the least ADDRESS that is free.");
        sheet.due("none FIXED", laid(of(HEAD + "step a halt;word x 1;step b halt;")),
                addresses(0, 1, 2));
        sheet.due("a later one FIXED at 0", laid(of(HEAD + "word x 1;word y 1;word z 1 at 0;")),
                addresses(1, 2, 0));
        sheet.due("around FIXED ones", laid(of(TWO + "word x 1 at 1;word y 1;word z 1 at 3;"
                + "step a halt;step b halt;step c halt at 2;")), addresses(1, 0, 3, 4, 5, 2));
        sheet.due("the last place left", laid(of(HEAD + "word x 1;word y 1 at 0;word z 1 at 1;"
                + "step a halt at 2;")), addresses(3, 0, 1, 2));
        sheet.due("over the end of a track", laid(of("drum tracks 2 sectors 2 wait 0 quick 0 mul 0;"
                + "word x 1;word y 1;word z 1;step a halt;")), addresses(0, 1, 2, 3));
        DrumPlacer x = of(SMALL);
        x.lays(2);
        sheet.due("whatever was done", laidBy(x, 0), addresses(0, 1, 2));
    }

    private static void soonest() {
        sheet.under("III");
        sheet.says("each ITEM, when it is to be read and is not laid, is laid at the free ADDRESS at"
                + " which it can be read first");
        sheet.due("one behind the other", laidBy(of(HEAD + "step c halt;word x 1;"), 1),
                addresses(0, 1));
        sheet.due("as RUN goes", laidBy(of(SMALL), 1), addresses(1, 0, 2));
        // a at 0, x from 4 on at sector 4, b behind mul and its 3 from 8 on at sector 0: taken, so 1.
        sheet.due("with wait and mul", laidBy(of("drum tracks 1 sectors 8 wait 3 quick 0 mul 3;"
                + "word x 1;step a mul x b;step b halt;"), 1), addresses(4, 0, 1));
        // a FIXED at 2; x from 3 on at 3; b from 4 on: all taken but 1 and 0, so 0.
        sheet.due("round the drum", laidBy(of(HEAD + "word x 1;step a load x b at 2;step b halt;"),
                1), addresses(3, 2, 0));
        sheet.due("what is FIXED is not free", laidBy(of(HEAD + "word x 1 at 0;word y 1 at 1;"
                + "step a halt;"), 1), addresses(0, 1, 2));
        sheet.due("FIXED later in the text", laidBy(of(HEAD + "step a halt;word x 1 at 0;"), 1),
                addresses(1, 0));
        sheet.says("(the least of several)");
        sheet.due("of two tracks", laidBy(of(TWO + "step a less b b at 0;step b halt;"), 1),
                addresses(0, 1));
        sheet.due("the least is taken", laidBy(of(TWO + "word x 1 at 1;step a less b b at 0;"
                + "step b halt;"), 1), addresses(1, 0, 5));
        // b from 1 on: 1 and 4 and its like on the quick track can be read then.
        sheet.due("on a quick track", laidBy(of("drum tracks 2 sectors 4 wait 0 quick 1 mul 0;"
                + "word x 1 at 1;step a less b b at 0;step b halt;"), 1), addresses(1, 0, 4));
        sheet.due("quick track last", laidBy(of("drum tracks 2 sectors 4 wait 0 quick 1 mul 0;"
                + "step a less b b at 0;step b halt;"), 1), addresses(0, 1));
        sheet.says("the first STEP likewise");
        sheet.due("at 0", laidBy(of(HEAD + "word x 1;step a halt;"), 1), addresses(1, 0));
        sheet.due("0 is taken", laidBy(of(TWO + "word x 1 at 0;step a halt;"), 1),
                addresses(0, 4));
        sheet.due("quick ones are as soon", laidBy(of("drum tracks 2 sectors 4 wait 0 quick 2 mul 0;"
                + "word x 1 at 0;word y 1 at 4;step a halt;"), 1), addresses(0, 4, 6));
        sheet.says("those never read then by LAW 0");
        sheet.due("behind those read", laidBy(of(HEAD + "word x 1;word y 1;step a halt;"
                + "step b halt;"), 1), addresses(1, 2, 0, 3));
        sheet.due("around all", laidBy(of(TWO + "word x 1;word y 1 at 1;step a less b b;"
                + "step c halt;step b halt;"), 1), addresses(2, 1, 0, 3, 5));
        sheet.says("with ITEMS laid till then");
        // a 0, x 1, b 2; x is read again at 9, where it lies; c from 10 on: 2 is taken, so 3.
        sheet.due("read again", laidBy(of(EIGHT + "word x 1;step a load x b;step b add x c;"
                + "step c halt;"), 1), addresses(1, 0, 2, 3));
        // a 0, then x FIXED at 5 is waited for: b behind it at 6.
        sheet.due("a FIXED one is waited for", laidBy(of(EIGHT + "word x 1 at 5;step a load x b;"
                + "step b halt;"), 1), addresses(5, 0, 6));
    }

    /** Each # is a place where an ADDRESS may be told, or none. */
    private static String placed(String text, int... addresses) {
        String all = text;
        for (int address : addresses) {
            all = all.replaceFirst("#", "at " + address);
        }
        return all.replace("#", "");
    }

    private static boolean told(String text, int address) {
        return text.contains("at " + address + ";");
    }

    /** Tries every laying of the three ITEMS marked by # one by one, the first one slowest. */
    private static void tryAll(String text) {
        DrumPlacer x = of(placed(text));
        int room = x.count(0) * x.count(1);
        int least = MAX;
        int most = 0;
        long first = 0;
        long ways = 0;
        for (int k = 0; k < room * room * room; k++) {
            int p = k / room / room;
            int q = k / room % room;
            int r = k % room;
            if (p == q || q == r || p == r || told(text, p) || told(text, q) || told(text, r)) {
                continue;
            }
            DrumPlacer y = of(placed(text, p, q, r));
            int time = y.time();
            most = Math.max(most, time);
            ways = time < least ? 1 : time == least ? ways + 1 : ways;
            first = time < least ? laid(y) : first;
            least = Math.min(least, time);
        }
        sheet.under("III");
        sheet.says("LAW 2: of all LAYINGS with the least TIME the first (by the ADDRESS of the first"
                + " ITEM not FIXED, then of the second one, and so on)");
        sheet.due("TIME of " + text, x.lawful(2), least);
        sheet.due("ADDRESSES of " + text, laidBy(x, 2), first);
        sheet.under("Promise 30");
        sheet.says("How many ways of LAYING (III) have the least TIME");
        sheet.due("ways of " + text, x.ways(), ways);
        sheet.under("Promise 31");
        sheet.says("The most TIME that a LAYING has");
        sheet.due("dearest of " + text, x.dearest(), most);
    }

    private static void bestOfAll() {
        for (String items : RUNS) {
            for (String drum : DRUMS) {
                tryAll(drum + items);
            }
        }
        sheet.under("III");
        sheet.says("LAW 2: of all LAYINGS with the least TIME the first (by the ADDRESS of the first"
                + " ITEM not FIXED, then of the second one, and so on)");
        sheet.due("words never read come first", laidBy(of(TWO + "word x 1;step a halt;"), 2),
                addresses(0, 4));
        sheet.due("a FIXED one ahead", laidBy(of(TWO + "word x 1 at 7;word y 1;step a halt;"), 2),
                addresses(7, 0, 4));
        sheet.due("none is not FIXED", laidBy(of(HEAD + "word x 1 at 3;step a halt at 2;"), 2),
                addresses(3, 2));
        sheet.due("four", laidBy(of(TWO + "word x 1;word y 1;word z 1;step a halt;"), 2),
                addresses(0, 1, 2, 4));
        sheet.due("a full drum", laidBy(of(HEAD + "word x 1;word y 1;word z 1;step a halt;"), 2),
                addresses(1, 2, 3, 0));
        DrumPlacer y = of(SMALL);
        y.put(0, 3);
        sheet.due("whatever was done", laidBy(y, 2), addresses(1, 0, 2));
    }

    // ---- Promises 23 to 27

    private static void moving() {
        sheet.under("Promise 23");
        sheet.says("TIME, were an ITEM, not FIXED, at an ADDRESS where none is (or itself)");
        DrumPlacer x = of(ONE_FIXED);
        int[] times = {-5, -5, 3, 1, 2, 3};
        for (int a = 0; a < 6; a++) {
            sheet.due("a to " + a, x.moved(2, a), times[a]);
        }
        sheet.due("itself", x.moved(1, 1), x.time());
        sheet.due("never read", x.moved(1, 5), x.time());
        sheet.due("nothing happens", laid(x), addresses(0, 1, 2));
        sheet.due("no act", x.count(8), 0);
        sheet.says("-2: there are none such");
        for (int wrong : new int[] {-1, -2, 6, 48, MIN, MAX}) {
            sheet.due("to " + wrong, x.moved(2, wrong), -2);
            sheet.due("a FIXED one to " + wrong, x.moved(0, wrong), -2);
        }
        for (int wrong : new int[] {-1, -2, 3, 20, MIN, MAX}) {
            sheet.due("ITEM " + wrong, x.moved(wrong, 5), -2);
            sheet.due("ITEM " + wrong + " to where one is", x.moved(wrong, 0), -2);
        }
        sheet.says("no STEP");
        sheet.due("no STEP", of(NO_STEP).moved(0, 2), -2);
        sheet.due("no STEP, FIXED", of(NO_STEP).moved(1, 2), -2);
        sheet.due("no DRUM", new DrumPlacer().moved(0, 0), -2);
        sheet.says("-5: another one is there, it is FIXED");
        sheet.due("another one is there", x.moved(1, 2), -5);
        sheet.due("another one is there, FIXED", x.moved(1, 0), -5);
        sheet.due("it is FIXED", x.moved(0, 5), -5);
        sheet.due("it is FIXED, to itself", x.moved(0, 0), -5);
        sheet.due("it is FIXED, another one is there", x.moved(0, 1), -5);
        x.put(1, 4);
        sheet.due("where one was", x.moved(2, 1), 2);
        sheet.due("where one is now", x.moved(2, 4), -5);
    }

    private static void exchanging() {
        sheet.under("Promise 24");
        sheet.says("TIME, if two ITEMS, none of them FIXED, changed places");
        DrumPlacer x = of(ONE_FIXED);
        sheet.due("q and a", x.swapped(1, 2), 2);
        sheet.due("a and q", x.swapped(2, 1), 2);
        sheet.due("nothing happens", laid(x), addresses(0, 1, 2));
        sheet.due("no act", x.count(8), 0);
        sheet.says("-2: there are none such, both are one, no STEP");
        for (int wrong : new int[] {-1, -2, 3, 20, MIN, MAX}) {
            sheet.due("1 and " + wrong, x.swapped(1, wrong), -2);
            sheet.due(wrong + " and 1", x.swapped(wrong, 1), -2);
            sheet.due("a FIXED one and " + wrong, x.swapped(0, wrong), -2);
            sheet.due(wrong + " and a FIXED one", x.swapped(wrong, 0), -2);
            sheet.due("both " + wrong, x.swapped(wrong, wrong), -2);
        }
        sheet.due("both are one", x.swapped(1, 1), -2);
        sheet.due("both are one, the last", x.swapped(2, 2), -2);
        sheet.due("both are one, FIXED", x.swapped(0, 0), -2);
        sheet.due("no STEP", of(HEAD + "word x 1;word y 1;").swapped(0, 1), -2);
        sheet.due("no STEP, one FIXED", of(NO_STEP).swapped(0, 1), -2);
        sheet.due("no DRUM", new DrumPlacer().swapped(0, 1), -2);
        sheet.says("-5: one is FIXED");
        sheet.due("the first", x.swapped(0, 1), -5);
        sheet.due("the other one", x.swapped(1, 0), -5);
        sheet.due("both", of(HEAD + "word x 1 at 0;step a halt at 3;").swapped(0, 1), -5);
    }

    private static void savingMost() {
        sheet.under("Promise 25");
        sheet.says("100 times the ITEM and its new ADDRESS by which one alone moved saves most, the"
                + " first of several (by ITEMS, then ADDRESSES)");
        DrumPlacer x = of(TWO + "word p 1 at 7;step a halt;");
        x.put(1, 3);
        sheet.due("0 and 4 are alike", x.best(), 100);
        DrumPlacer y = of(TWO + "word p 1 at 0;step a halt;");
        y.put(1, 3);
        sheet.due("1 saves, 4 saves more", y.best(), 104);
        // a 0, b 6, c 12, d 17: with b at 1 c is read at 6, with c at 1 at 7, d at 11 both times.
        String alike = "drum tracks 3 sectors 6 wait 0 quick 0 mul 0;step a less b b at 0;";
        DrumPlacer u = of(alike + "step b less c c;step c less d d;step d halt at 5;");
        u.put(1, 6);
        u.put(2, 12);
        sheet.due("two ITEMS alike", u.time() * 10000 + u.moved(1, 1) * 100 + u.moved(2, 1), 181212);
        sheet.due("two ITEMS alike", u.best(), 101);
        DrumPlacer t = of(alike + "word x 1 at 1;step b less c c;step c less d d;step d halt at 5;");
        t.put(2, 6);
        t.put(3, 12);
        sheet.due("two ITEMS alike, 1 taken", t.best(), 202);
        DrumPlacer z = of("drum tracks 1 sectors 6 wait 0 quick 0 mul 0;step a less b b at 1;"
                + "step b less c c;step c halt;");
        z.put(2, 5);
        z.put(1, 2);
        sheet.due("the one that saves", z.best(), 203);
        DrumPlacer v = of("drum tracks 2 sectors 6 wait 0 quick 0 mul 0;step a less b b;"
                + "step c halt;step b less c c;");
        v.put(0, 5);
        // a at 0 saves a whole turn: so does nothing else.
        sheet.due("ITEM 0 to ADDRESS 0", v.best(), 0);
        DrumPlacer w = of("drum tracks 1 sectors 8 wait 0 quick 0 mul 0;word p 1;step a load p b;"
                + "step b halt;");
        w.put(0, 1 + 5);
        w.put(1, 5);
        w.put(2, 3);
        // a 5, p 6, b 11: b at 7 saves 4, and a moved to 0..4 alone nothing, p none.
        sheet.due("the last ITEM", w.best(), 207);
        sheet.says("NONE: none saves any");
        sheet.due("none", of(HEAD + "step a halt;").best(), -1);
        sheet.due("all FIXED", of(HEAD + "step a halt at 3;").best(), -1);
        sheet.due("a full drum", of("drum tracks 1 sectors 2 wait 0 quick 0 mul 0;word x 1;"
                + "step a halt;").best(), -1);
        sheet.due("as soon alone", of(HEAD + "word x 1;step a halt at 3;").best(), -1);
        sheet.due("only two together", of(SMALL).best(), -1);
        sheet.due("nothing happens", z.count(8), 2);
    }

    private static void savingPair() {
        sheet.under("Promise 26");
        sheet.says("100 times the lesser ITEM and the other one of two that change places so likewise"
                + " (by the lesser, then the other one)");
        sheet.due("small", of(SMALL).pair(), 1);
        String four = "drum tracks 2 sectors 2 wait 0 quick 0 mul 0;word x 1;word y 1;word z 1;"
                + "step a halt;";
        sheet.due("with x as with z", of(four).pair(), 3);
        sheet.due("x FIXED", of(four.replace("x 1;", "x 1 at 0;")).pair(), 203);
        sheet.due("the STEP first", of("drum tracks 2 sectors 2 wait 0 quick 0 mul 0;word x 1;"
                + "step a halt;word y 1;word z 1;").pair(), 1);
        DrumPlacer w = of(HEAD + "word x 1;word y 1;step a halt;");
        w.swap(0, 1);
        sheet.due("the later lesser one saves more", w.pair(), 102);
        DrumPlacer x = of("drum tracks 1 sectors 5 wait 0 quick 0 mul 0;step a halt;word x 1;"
                + "word y 1;");
        x.put(0, 4);
        x.put(2, 0);
        sheet.due("most, not the first", x.pair(), 2);
        sheet.says("NONE, -2 likewise");
        sheet.due("none saves any", of(HEAD + "step a halt;word x 1;").pair(), -1);
        sheet.due("one ITEM", of(HEAD + "step a halt;").pair(), -1);
        sheet.due("one not FIXED", of(HEAD + "step a halt;word x 1 at 3;").pair(), -1);
        sheet.due("the other one FIXED", of(HEAD + "step a halt;word x 1 at 0;").pair(), -1);
        sheet.due("the lesser one FIXED", of(HEAD + "word x 1 at 0;step a halt;").pair(), -1);
        sheet.due("all FIXED", of(HEAD + "step a halt at 3;word x 1 at 0;").pair(), -1);
        sheet.due("two never read", of(HEAD + "step a halt at 3;word x 1;word y 1;").pair(), -1);
        sheet.due("no STEP", of(HEAD + "word x 1;word y 1;").pair(), -2);
        sheet.due("no DRUM", new DrumPlacer().pair(), -2);
        sheet.under("Promise 25");
        sheet.says("-2 as time()");
        sheet.due("no STEP", of(NO_STEP).best(), -2);
        sheet.due("no DRUM", new DrumPlacer().best(), -2);
    }

    private static void idleMoves() {
        sheet.under("Promise 27");
        sheet.says("How many moves of one ITEM alone would leave TIME as it is (not to where it is)");
        sheet.due("not to where it is", of(HEAD + "step a halt;").idle(), 0);
        sheet.due("the same sector", of(TWO + "step a halt;").idle(), 1);
        sheet.due("four tracks", of("drum tracks 4 sectors 4 wait 0 quick 0 mul 0;step a halt;")
                .idle(), 3);
        sheet.due("never read", of(TWO + "word x 1;step a halt at 0;").idle(), 6);
        sheet.due("two never read", of(TWO + "word x 1;word y 1;step a halt at 0;").idle(), 10);
        sheet.due("all FIXED", of(TWO + "word x 1 at 3;step a halt at 0;").idle(), 0);
        sheet.due("a full drum", of("drum tracks 1 sectors 2 wait 0 quick 0 mul 0;word x 1;"
                + "step a halt;").idle(), 0);
        sheet.due("neither more nor less", of(SMALL).idle(), 2);
        sheet.due("the most", of("drum tracks 4 sectors 12 wait 0 quick 0 mul 0;step a halt at 0;"
                + "word p 1;word q 1;word r 1;word s 1;word t 1;word u 1;word v 1;word w 1;")
                .idle(), 8 * 39);
        DrumPlacer x = of(TWO + "step a halt;");
        x.put(0, 4);
        sheet.due("to where it was", x.idle(), 1);
        sheet.due("nothing happens", laid(x), addresses(4));
        sheet.says("-2 as time()");
        sheet.due("no STEP", of(NO_STEP).idle(), -2);
        sheet.due("no DRUM", new DrumPlacer().idle(), -2);
    }

    /** What would be is what is, when it is done. */
    private static void asIfDone() {
        for (String items : RUNS) {
            for (String drum : DRUMS) {
                DrumPlacer x = of(placed(drum + items));
                int many = x.count(5) + x.count(6);
                sheet.under("Promise 23");
                sheet.says("TIME, were an ITEM, not FIXED, at an ADDRESS where none is (or itself)");
                for (int k = 0; k < many * x.count(0) * x.count(1); k++) {
                    int moved = x.moved(k % many, k / many);
                    sheet.due("put " + k % many + " " + k / many, x.put(k % many, k / many), moved);
                    sheet.due("TIME", moved < 0 ? moved : x.time(), moved);
                    x.anew();
                }
                sheet.under("Promise 24");
                sheet.says("TIME, if two ITEMS, none of them FIXED, changed places");
                for (int k = 0; k < many * many; k++) {
                    int swapped = x.swapped(k % many, k / many);
                    sheet.due("swap " + k % many + " " + k / many, x.swap(k % many, k / many),
                            swapped);
                    sheet.due("TIME", swapped < 0 ? swapped : x.time(), swapped);
                    x.anew();
                }
            }
        }
    }

    /** All that can be asked without an act; what is beyond them is 0. */
    private static long ask(DrumPlacer x, int question) {
        switch (question) {
            case 0: return x.time();
            case 1: return x.lost();
            case 2: return x.lostFor(0);
            case 3: return x.worst();
            case 4: return x.bound();
            case 5: return x.done(0, 3);
            case 6: return x.done(1, 2);
            case 7: return x.waiting(7);
            case 8: return x.quicker(1);
            case 9: return x.quicker(0);
            case 10: return x.moved(0, x.count(0) * x.count(1) - 1);
            case 11: return x.moved(1, 3);
            case 12: return x.swapped(0, 1);
            case 13: return x.swapped(1, 2);
            case 14: return x.best();
            case 15: return x.pair();
            case 16: return x.idle();
            case 17: return x.lawful(0);
            case 18: return x.lawful(1);
            case 19: return x.lawful(2);
            case 20: return x.address(1, 1);
            case 21: return x.address(2, 0);
            case 22: return x.ways();
            case 23: return x.dearest();
            case 24: return x.rounds();
            case 25: return x.met(0);
            case 26: return x.acc();
            case 27: return x.value(0);
            case 28: return x.steps();
            case 29: return x.why();
            case 30: return laid(x);
            case 31: return x.count(7);
            default: return x.fault(0);
        }
    }

    private static void nothingBesides() {
        sheet.under("Not promised");
        sheet.says("Nothing is promised beyond the answers and state changes described above");
        for (String items : RUNS) {
            String text = placed(DRUMS[4] + items);
            for (int before = 0; before <= 32; before++) {
                for (int question = 0; question <= 32; question++) {
                    DrumPlacer x = of(text);
                    ask(x, before);
                    sheet.due("question " + question + " behind " + before + " of " + text,
                            ask(x, question), ask(of(text), question));
                }
            }
        }
        sheet.under("Promise 4");
        sheet.says("(in place of others)");
        for (int one = 0; one < RUNS.length * DRUMS.length; one++) {
            String before = placed(DRUMS[one % DRUMS.length] + RUNS[one / DRUMS.length]);
            for (int other = 0; other < RUNS.length; other++) {
                String text = placed(DRUMS[(one + other) % DRUMS.length] + RUNS[other]);
                DrumPlacer x = of(before);
                x.ways();
                x.swap(0, 1);
                Texts.tell(x, text);
                DrumPlacer fresh = of(text);
                for (int question = 0; question <= 32; question++) {
                    sheet.due("question " + question + " of " + text + " behind " + before,
                            ask(x, question), ask(fresh, question));
                }
            }
        }
    }

    // ---- Promises 28 to 31

    /** A text with so many ITEMS that are not FIXED, and two that are. */
    private static String loose(int many) {
        StringBuilder text = new StringBuilder(EIGHT + "word f 1 at 7;");
        for (int k = 0; k < many - 1; k++) {
            text.append("word w").append((char) ('a' + k)).append(" 1;");
        }
        return text.append(many > 0 ? "step a less b b;" : "").append("step b halt at 6;")
                .toString();
    }

    private static void byLaws() {
        for (int many = 0; many <= 6; many++) {
            DrumPlacer x = of(loose(many));
            boolean few = many <= 4;
            sheet.under("Promise 28");
            sheet.says("-3: LAW 2, more than 4 ITEMS are not FIXED");
            sheet.due(many + " loose", x.count(7), many);
            sheet.due("LAW 2 with " + many, x.lawful(2), few ? 7 : -3);
            sheet.due("LAW 0 with " + many, Math.min(x.lawful(0), 0), 0);
            sheet.due("LAW 1 with " + many, Math.min(x.lawful(1), 0), 0);
            sheet.under("Promise 29");
            sheet.says("-3 likewise");
            sheet.due("LAW 2 with " + many, x.address(2, 0), few ? 7 : -3);
            sheet.due("LAW 0 with " + many, x.address(0, 0), 7);
            sheet.due("LAW 1 with " + many, x.address(1, 0), 7);
            sheet.under("Promise 30");
            sheet.says("-3: more than 4 ITEMS are not FIXED");
            sheet.due("ways with " + many, Math.min(x.ways(), 0), few ? 0 : -3);
            sheet.under("Promise 31");
            sheet.says("-2, -3 likewise");
            sheet.due("dearest with " + many, Math.min(x.dearest(), 0), few ? 0 : -3);
            sheet.under("Promise 34");
            sheet.says("then -3 as lawful()");
            sheet.due("lays with " + many, x.lays(2), few ? 7 : -3);
            sheet.due("acts with " + many, x.count(8), few ? 1 : 0);
        }
    }

    private static void noLaw() {
        DrumPlacer x = of(SMALL);
        DrumPlacer five = of(FIVE_LOOSE);
        for (int law : new int[] {-1, -2, 3, 4, MIN, MAX}) {
            sheet.under("Promise 28");
            sheet.says("-2: there is none such, no STEP");
            sheet.due("lawful " + law, x.lawful(law), -2);
            sheet.due("lawful " + law, five.lawful(law), -2);
            sheet.under("Promise 29");
            sheet.says("-2: there are none such, no STEP");
            sheet.due("address " + law, x.address(law, 0), -2);
            sheet.due("address " + law, five.address(law, 0), -2);
            sheet.under("Promise 34");
            sheet.says("-2 as lawful()");
            sheet.due("lays " + law, x.lays(law), -2);
            sheet.due("no act", x.count(8), 0);
        }
        sheet.under("Promise 29");
        sheet.says("-2: there are none such, no STEP");
        for (int item : new int[] {-1, -2, 3, 20, MIN, MAX}) {
            for (int law = -1; law <= 3; law++) {
                sheet.due("address " + law + " " + item, x.address(law, item), -2);
            }
        }
        sheet.due("-2 ahead of -3", five.address(2, 5), -2);
        sheet.due("the last ITEM", x.address(0, 2), 2);
        for (DrumPlacer none : new DrumPlacer[] {new DrumPlacer(), of(HEAD), of(NO_STEP),
            of(EIGHT + "word p 1;word q 1;word r 1;word s 1;word t 1;")}) {
            dueNoLaw(none);
        }
    }

    private static void dueNoLaw(DrumPlacer none) {
        for (int law = 0; law <= 2; law++) {
            sheet.under("Promise 28");
            sheet.says("-2: there is none such, no STEP");
            sheet.due("lawful " + law, none.lawful(law), -2);
            sheet.under("Promise 29");
            sheet.says("-2: there are none such, no STEP");
            sheet.due("address " + law, none.address(law, 0), -2);
            sheet.under("Promise 34");
            sheet.says("-2 as lawful()");
            sheet.due("lays " + law, none.lays(law), -2);
        }
        sheet.under("Promise 30");
        sheet.says("-2 as time()");
        sheet.due("ways", none.ways(), -2);
        sheet.under("Promise 31");
        sheet.says("-2, -3 likewise");
        sheet.due("dearest", none.dearest(), -2);
    }

    private static void ofAllWays() {
        sheet.under("Promise 28");
        sheet.says("TIME by a LAW (0, 1, 2; III)");
        DrumPlacer x = of(SMALL);
        sheet.due("LAW 0", x.lawful(0), 7);
        sheet.due("LAW 1", x.lawful(1), 3);
        sheet.due("LAW 2", x.lawful(2), 3);
        x.put(0, 3);
        sheet.due("whatever was done", x.lawful(0), 7);
        sheet.due("nothing happens", x.item(0, 1), 3);
        sheet.due("nothing happens", x.count(8), 1);
        sheet.under("Promise 29");
        sheet.says("ADDRESS of an ITEM by a LAW");
        sheet.due("LAW 0", laidBy(x, 0), addresses(0, 1, 2));
        sheet.due("LAW 1", laidBy(x, 1), addresses(1, 0, 2));
        sheet.due("LAW 2", laidBy(x, 2), addresses(1, 0, 2));
        sheet.due("nothing happens", laid(x), addresses(3, 1, 2));
        sheet.under("Promise 30");
        sheet.says("How many ways of LAYING (III) have the least TIME");
        sheet.due("none is not FIXED", of(HEAD + "step a halt at 3;").ways(), 1);
        sheet.due("one", of(HEAD + "step a halt;").ways(), 1);
        sheet.due("a full drum", of(HEAD + "word x 1;word y 1;word z 1;step a halt;").ways(), 6);
        sheet.due("one free place", of(HEAD + "word x 1 at 0;word y 1 at 2;word z 1 at 3;"
                + "step a halt;").ways(), 1);
        String most = "drum tracks 4 sectors 12 wait 0 quick 0 mul 0;word p 1;word q 1;word r 1;";
        sheet.due("the most", of(most + "word s 1;step a halt at 0;").ways(), 47L * 46 * 45 * 44);
        sheet.due("a STEP of four", of(most + "step a halt;").ways(), 4L * 47 * 46 * 45);
        sheet.due("every time is soon", of("drum tracks 1 sectors 12 wait 9 quick 1 mul 9;word p 1;"
                + "word q 1;step a mul p b;step b add q a;").ways(), 12 * 11 * 10 * 9);
        x.put(1, 0);
        sheet.due("whatever was done", x.ways(), 1);
        sheet.under("Promise 31");
        sheet.says("The most TIME that a LAYING has");
        sheet.due("none is not FIXED", of(HEAD + "step a halt at 2;").dearest(), 3);
        sheet.due("one", of(HEAD + "step a halt;").dearest(), 4);
        sheet.due("the last place is taken", of(HEAD + "word x 1 at 3;step a halt;").dearest(), 3);
        sheet.due("every time is soon", of("drum tracks 1 sectors 12 wait 9 quick 1 mul 9;"
                + "step a halt;").dearest(), 1);
        sheet.due("whatever was done", x.dearest(), 10);
        Texts.tell(x, HEAD + "step a halt;");
        sheet.due("of another DRUM", x.dearest(), 4);
        sheet.due("of another DRUM", x.lawful(2), 1);
    }

    // ---- Promises 32 to 36

    private static void putting() {
        sheet.under("Promise 32");
        sheet.says("An act: the ITEM is at that ADDRESS: TIME");
        DrumPlacer x = of(ONE_FIXED);
        sheet.due("a to 5", x.put(2, 5), 3);
        sheet.due("there", x.at(5), 2);
        sheet.due("not there any more", x.at(2), -1);
        sheet.due("itself, an act too", x.put(2, 5), 3);
        sheet.due("acts", x.count(8), 2);
        sheet.says("-2, -5 as moved()");
        for (int wrong : new int[] {-1, 6, 48, MIN, MAX}) {
            sheet.due("to " + wrong, x.put(2, wrong), -2);
            sheet.due("a FIXED one to " + wrong, x.put(0, wrong), -2);
        }
        for (int wrong : new int[] {-1, 3, 20, MIN, MAX}) {
            sheet.due("ITEM " + wrong, x.put(wrong, 3), -2);
        }
        sheet.due("another one is there", x.put(2, 1), -5);
        sheet.due("it is FIXED", x.put(0, 3), -5);
        sheet.due("it is FIXED, to itself", x.put(0, 0), -5);
        sheet.due("no STEP", of(NO_STEP).put(0, 2), -2);
        sheet.due("no DRUM", new DrumPlacer().put(0, 0), -2);
        sheet.due("no act", x.count(8), 2);
        sheet.due("nothing happens", laid(x), addresses(0, 1, 5));
        sheet.says("-5: there were 20 acts");
        for (int k = 2; k < 20; k++) {
            sheet.due("act " + k, x.put(2, 3 + k % 2), 1 + k % 2);
        }
        sheet.due("acts", x.count(8), 20);
        sheet.due("one more", x.put(2, 5), -5);
        sheet.due("itself", x.put(2, 4), -5);
        sheet.due("-2 stays -2", x.put(2, 6), -2);
        sheet.due("nothing happens", laid(x), addresses(0, 1, 4));
        x.undo();
        sheet.due("room again", x.put(2, 5), 3);
        sheet.due("full again", x.put(2, 3), -5);
    }

    private static void swapping() {
        sheet.under("Promise 33");
        sheet.says("An act: they change places: TIME");
        DrumPlacer x = of(ONE_FIXED);
        sheet.due("q and a", x.swap(1, 2), 2);
        sheet.due("laid", laid(x), addresses(0, 2, 1));
        sheet.due("a and q", x.swap(2, 1), 3);
        sheet.due("acts", x.count(8), 2);
        sheet.says("-2, -5 likewise");
        for (int wrong : new int[] {-1, 3, 20, MIN, MAX}) {
            sheet.due("1 and " + wrong, x.swap(1, wrong), -2);
            sheet.due(wrong + " and 1", x.swap(wrong, 1), -2);
            sheet.due("a FIXED one and " + wrong, x.swap(0, wrong), -2);
        }
        sheet.due("both are one", x.swap(1, 1), -2);
        sheet.due("both are one, FIXED", x.swap(0, 0), -2);
        sheet.due("one is FIXED", x.swap(0, 1), -5);
        sheet.due("one is FIXED", x.swap(2, 0), -5);
        sheet.due("no STEP", of(HEAD + "word x 1;word y 1;").swap(0, 1), -2);
        sheet.due("no DRUM", new DrumPlacer().swap(0, 1), -2);
        sheet.due("no act", x.count(8), 2);
        for (int k = 2; k < 20; k++) {
            sheet.due("act " + k, x.swap(1, 2), k % 2 == 0 ? 2 : 3);
        }
        sheet.due("there were 20 acts", x.swap(1, 2), -5);
        sheet.due("-2 stays -2", x.swap(1, 1), -2);
        sheet.due("nothing happens", laid(x), addresses(0, 1, 2));
        sheet.due("acts", x.count(8), 20);
        x.undo();
        sheet.due("room again", x.swap(1, 2), 3);
    }

    private static void layingAnew() {
        sheet.under("Promise 34");
        sheet.says("An act: all are laid by a LAW: TIME");
        DrumPlacer x = of(SMALL);
        sheet.due("LAW 1", x.lays(1), 3);
        sheet.due("laid", laid(x), addresses(1, 0, 2));
        sheet.due("LAW 0", x.lays(0), 7);
        sheet.due("laid", laid(x), addresses(0, 1, 2));
        sheet.due("LAW 2", x.lays(2), 3);
        sheet.due("laid", laid(x), addresses(1, 0, 2));
        sheet.due("again, an act too", x.lays(2), 3);
        sheet.due("acts", x.count(8), 4);
        sheet.says("then -5: there were 20 acts");
        for (int k = 4; k < 20; k++) {
            sheet.due("act " + k, x.lays(k % 3), k % 3 == 0 ? 7 : 3);
        }
        long before = laid(x);
        for (int law = 0; law <= 2; law++) {
            sheet.due("one more", x.lays(law), -5);
        }
        sheet.due("-2 ahead of -5", x.lays(3), -2);
        sheet.due("-2 ahead of -5", x.lays(-1), -2);
        sheet.due("nothing happens", laid(x), before);
        sheet.due("acts", x.count(8), 20);
        DrumPlacer five = of(FIVE_LOOSE);
        sheet.due("-3", five.lays(2), -3);
        for (int k = 0; k < 20; k++) {
            five.lays(k % 2);
        }
        sheet.due("-5 ahead of -3", five.lays(2), -5);
        five.undo();
        sheet.due("-3 again", five.lays(2), -3);
        sheet.due("acts", five.count(8), 19);
    }

    private static void takingBack() {
        sheet.under("Promise 35");
        sheet.says("The latest act is taken back: how many there are");
        DrumPlacer x = of(EIGHT + "word x 1;step a load x b;step b halt;");
        long[] before = new long[21];
        for (int k = 0; k < 20; k++) {
            before[k] = laid(x);
            if (k % 3 == 0) {
                x.put(k % 2, x.at(7) < 0 ? 7 : x.at(6) < 0 ? 6 : 5);
            } else if (k % 3 == 1) {
                x.swap(0, 1 + k % 2);
            } else {
                x.lays(k % 2);
            }
        }
        for (int k = 19; k >= 0; k--) {
            sheet.due("undo", x.undo(), k);
            sheet.due("as it was", laid(x), before[k]);
            sheet.due("acts", x.count(8), k);
        }
        sheet.says("-5: there is none");
        sheet.due("all are taken back", x.undo(), -5);
        sheet.due("nothing happens", laid(x), before[0]);
        sheet.due("none was", of(SMALL).undo(), -5);
        sheet.due("a DRUM without a STEP", of(NO_STEP).undo(), -5);
        sheet.due("a DRUM without an ITEM", of(HEAD).undo(), -5);
        x.put(0, 7);
        x.put(0, 9);
        sheet.due("a refused one is none", x.undo(), 0);
        sheet.due("a refused one is none", x.undo(), -5);
        sheet.says("-2: there is no DRUM");
        sheet.due("none yet", new DrumPlacer().undo(), -2);
        x.put(0, 7);
        Texts.tell(x, "");
        sheet.due("none any more", x.undo(), -2);
    }

    private static void allTakenBack() {
        sheet.under("Promise 36");
        sheet.says("All are: how many there were");
        for (int acts = 0; acts <= 20; acts++) {
            DrumPlacer x = of(SMALL);
            for (int k = 0; k < acts; k++) {
                x.lays(k % 2 == 0 ? 1 : 2);
            }
            sheet.due(acts + " acts", x.anew(), acts);
            sheet.due("as it was", laid(x), addresses(0, 1, 2));
            sheet.due("acts", x.count(8), 0);
            sheet.due("TIME", x.time(), 7);
            sheet.due("there were none", x.anew(), 0);
            sheet.due("none to take back", x.undo(), -5);
            for (int k = 0; k < 20; k++) {
                x.lays(1);
            }
            sheet.due("room for 20", x.count(8), 20);
        }
        DrumPlacer y = of(SMALL);
        y.put(0, 3);
        y.swap(1, 2);
        y.undo();
        sheet.due("those not taken back", y.anew(), 1);
        sheet.due("as it was", laid(y), addresses(0, 1, 2));
        sheet.due("a DRUM without a STEP", of(NO_STEP).anew(), 0);
        sheet.due("a DRUM without an ITEM", of(HEAD).anew(), 0);
        sheet.says("-2 likewise");
        sheet.due("none yet", new DrumPlacer().anew(), -2);
        Texts.tell(y, "");
        sheet.due("none any more", y.anew(), -2);
    }

    public static void main(String[] args) throws IOException {
        laying();
        inOrder();
        soonest();
        bestOfAll();
        moving();
        exchanging();
        savingMost();
        savingPair();
        idleMoves();
        asIfDone();
        nothingBesides();
        byLaws();
        noLaw();
        ofAllWays();
        putting();
        swapping();
        layingAnew();
        takingBack();
        allTakenBack();
        sheet.close();
    }
}
