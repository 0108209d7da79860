import java.io.IOException;

/** Each sentence of the terms II and of the promises 1 to 22 that names a boundary case. */
public final class RunEdgeTests {
    private static final int MIN = Integer.MIN_VALUE;
    private static final int MAX = Integer.MAX_VALUE;
    private static final String HEAD = "drum tracks 1 sectors 4 wait 0 quick 0 mul 0;";
    private static final String ROOMY = "drum tracks 4 sectors 12 wait 0 quick 0 mul 0;";
    private static final String NO_STEP = HEAD + "word x 5;word y 6 at 0;";
    /** a at 1, x at 0 (4), b at 2 (6): TIME 7, LOST 1 and 2 and 1. */
    private static final String SMALL =
            "drum tracks 1 sectors 4 wait 0 quick 0 mul 2;word x 3;step a load x b;step b halt;";
    private static final String ENDLESS = HEAD + "step a less a a;";

    private static final Sheet sheet = new Sheet();

    private static DrumPlacer of(String text) {
        return Sheet.of(text);
    }

    private static String word(String name, int number) {
        return "word " + name + (number < 0 ? " -" : " ") + Math.abs(number) + ";";
    }

    /** The document's own words, again and again. */
    private static int within(int number) {
        while (number > 9999) {
            number -= 20000;
        }
        while (number < -10000) {
            number += 20000;
        }
        return number;
    }

    // ---- II, RUN

    private static void begin() {
        sheet.under("II");
        sheet.says("ACC is 0");
        sheet.due("acc", of(HEAD + "word x 7;step a halt;").acc(), 0);
        sheet.due("add to it", of(HEAD + "word x 7;step a add x b;step b halt;").acc(), 7);
        sheet.due("store it", of(HEAD + "word x 7;step a store x b;step b halt;").value(0), 0);
        DrumPlacer twice = of(HEAD + "word x 7;step a add x b;step b halt;");
        Texts.tell(twice, HEAD + "step a halt;");
        sheet.due("0 again for another DRUM", twice.acc(), 0);
        sheet.says("WORDS have N (or less it) at first");
        sheet.due("N", of(HEAD + "word x 9999;step a halt;").value(0), 9999);
        sheet.due("less it", of(HEAD + "word x -9999;step a halt;").value(0), -9999);
        sheet.due("less 0", of(HEAD + "word x -0;step a halt;").value(0), 0);
        sheet.says("STEPS are done from the first STEP on");
        sheet.due("the first of them", of(HEAD + "step b halt;step a less a a;").steps(), 1);
        sheet.due("behind WORDS", of(HEAD + "word x 1;word y 1;step a halt;").done(0, 0), 2);
        sheet.due("not by ADDRESS", of(HEAD + "step a halt at 3;step b less a a at 0;").steps(), 1);
    }

    private static int answer(int acc, String op, int number) {
        return of(ROOMY + word("x", acc) + word("y", number) + "step a load x b;step b " + op
                + " y c;step c halt;").acc();
    }

    private static void wrapAround() {
        sheet.under("II");
        int[] edges = {-9999, -9998, -5001, -5000, -4999, -101, -100, -2, -1, 0, 1, 2, 99, 100, 101,
            4999, 5000, 5001, 9998, 9999};
        sheet.says("what is above 9,999 is 20,000 less");
        sheet.due("9,999", answer(9998, "add", 1), 9999);
        sheet.due("10,000", answer(9999, "add", 1), -10000);
        sheet.due("10,000 by sub", answer(9999, "sub", -1), -10000);
        sheet.due("10,000 by mul", answer(100, "mul", 100), -10000);
        sheet.due("19,998", answer(9999, "add", 9999), -2);
        sheet.says("what is below -10,000 is 20,000 more");
        sheet.due("-10,000", answer(-9999, "add", -1), -10000);
        sheet.due("-10,000 by sub", answer(-9999, "sub", 1), -10000);
        sheet.due("-10,001", answer(-9999, "add", -2), 9999);
        sheet.due("-10,001 by sub", answer(-9999, "sub", 2), 9999);
        sheet.due("-10,000 by mul", answer(-100, "mul", 100), -10000);
        sheet.due("-19,998", answer(-9999, "add", -9999), 2);
        sheet.says("again and again");
        for (int a : edges) {
            for (int b : edges) {
                sheet.due(a + " add " + b, answer(a, "add", b), within(a + b));
                sheet.due(a + " sub " + b, answer(a, "sub", b), within(a - b));
                sheet.due(a + " mul " + b, answer(a, "mul", b), within(a * b));
            }
        }
        // -10,000 can't be told, but it can come to be, and be stored.
        String most = ROOMY + "word x -9999;word y 1;step a load x b;step b sub y c;step c store x d;";
        sheet.due("-10,000 stored", of(most + "step d halt;").value(0), -10000);
        sheet.due("-10,000 twice", of(most + "step d add x e;step e halt;").acc(), 0);
        sheet.due("-10,000 less it", of(most + "step d sub x e;step e halt;").acc(), 0);
        sheet.due("-10,000 times it", of(most + "step d mul x e;step e halt;").acc(), 0);
        sheet.due("-10,000 times 9,999", of(most.replace("word y 1", "word z 9999;word y 1")
                + "step d mul z e;step e halt;").acc(), -10000);
    }

    private static void goingOn() {
        sheet.under("II");
        sheet.says("the first NAME is next, if ACC is below 0; else, and for all others, the last"
                + " NAME is");
        for (int acc = -2; acc <= 2; acc++) {
            DrumPlacer x = of(ROOMY + word("x", acc) + "step a load x b;step b less c d;"
                    + "step c halt;step d halt;");
            sheet.due("next by " + acc, x.done(2, 0), acc < 0 ? 3 : 4);
        }
        DrumPlacer least = of(ROOMY + "word x -9999;word y 1;step a load x b;step b sub y c;"
                + "step c less d e;step d halt;step e halt;");
        sheet.due("next by -10,000", least.done(3, 0), 5);
        for (String op : new String[] {"load", "add", "sub", "mul", "store"}) {
            DrumPlacer x = of(ROOMY + "word x -5;step a load x b;step b " + op
                    + " x c;step c halt;");
            sheet.due("the last of " + op, x.done(2, 0), 3);
        }
        sheet.due("the last of move", of(ROOMY + "word x -5;step a load x b;step b move a 1 c;"
                + "step c halt;").done(2, 0), 3);
        sheet.due("itself", of(ENDLESS).done(99, 0), 0);

        sheet.says("the WORD N further among WORDS in order (behind the last one the first again)");
        for (int words = 1; words <= 8; words++) {
            for (int n = 1; n <= 7; n++) {
                furtherAmong(words, n);
            }
        }
    }

    /** WORDS with STEPS among them: w0 is ITEM 0, the others stand behind the STEPS a and b. */
    private static void furtherAmong(int words, int n) {
        StringBuilder text = new StringBuilder(ROOMY).append("word wa 0;step a load wa b;"
                + "step b move a ").append(n).append(" a;");
        for (int k = 1; k < words; k++) {
            text.append("word w").append((char) ('a' + k)).append(' ').append(k).append(';');
        }
        DrumPlacer x = of(text.toString());
        int rank = 0;
        for (int k = 0; k < 100; k += 2) {
            int item = rank == 0 ? 0 : rank + 2;
            sheet.due("operand of the " + k + "th", x.done(k, 1), item);
            sheet.due("operand of the move", x.done(k + 1, 1), 1);
            rank = (rank + n) % words;
        }
    }

    private static void ending() {
        sheet.under("II");
        sheet.says("halt: it ends, 1. It ends, 2, behind 100 STEPS.");
        for (int turns : new int[] {1, 2, 47, 48, 49, 50, 51, 60}) {
            // A load, then an add and a less for each turn, then a halt.
            DrumPlacer x = of(ROOMY + word("m", -turns) + "word n 1;step a load m b;"
                    + "step b add n c;step c less b d;step d halt;");
            int steps = 1 + 2 * turns + 1;
            sheet.due("STEPS of " + turns, x.steps(), Math.min(steps, 100));
            sheet.due("why of " + turns, x.why(), steps <= 100 ? 1 : 2);
            sheet.due("acc of " + turns, x.acc(), Math.min(0, 50 - turns));
        }
        sheet.due("without a halt", of(ENDLESS).why(), 2);
        sheet.due("a halt at once", of(HEAD + "step a halt;").why(), 1);

        sheet.says("Each RUN begins with operands as told.");
        String moving = ROOMY + "word x 1;word y 2;word z 3;step a load x b;step b move a 1 a;";
        DrumPlacer x = of(moving);
        int time = x.time();
        for (int k = 0; k < 3; k++) {
            sheet.due("its first operand", x.done(0, 1), 0);
            sheet.due("its third operand", x.done(2, 1), 1);
            sheet.due("its TIME", x.time(), time);
            sheet.due("by another wait", x.waiting(0), time);
            sheet.due("by a LAW", x.lawful(0), time);
            sheet.due("laid so", x.lays(0), time);
        }
        Texts.tell(x, moving);
        sheet.due("told again", x.done(0, 1), 0);
        sheet.due("told again", x.time(), time);
    }

    // ---- II, TIME

    /** The first time from one on that is a sector's, counted one by one. */
    private static int firstFrom(int from, int sector, int turn) {
        int t = from;
        while (t % turn != sector % turn) {
            t++;
        }
        return t;
    }

    private static void readable() {
        sheet.under("II, TIME");
        sheet.says("track a / S (cut), sector a modulo S) can be read at a time that is its sector"
                + " modulo S");
        for (int t = 1; t <= 4; t++) {
            for (int s : new int[] {2, 3, 7, 12}) {
                for (int a = 0; a < t * s; a++) {
                    DrumPlacer x = of("drum tracks " + t + " sectors " + s
                            + " wait 0 quick 0 mul 0;step a halt at " + a + ";");
                    sheet.due("read at", x.done(0, 2), a % s);
                }
            }
        }
        sheet.says("on the last track, if Q is above 0, at one that is its sector modulo Q");
        for (int t = 1; t <= 4; t++) {
            for (int q : new int[] {1, 2, 3, 4, 6}) {
                for (int a = 0; a < t * 12; a++) {
                    DrumPlacer x = of("drum tracks " + t + " sectors 12 wait 0 quick " + q
                            + " mul 0;step a halt at " + a + ";");
                    boolean last = a >= (t - 1) * 12;
                    sheet.due("read at", x.done(0, 2), last ? a % 12 % q : a % 12);
                    sheet.due("without quick heads", x.quicker(0), a % 12 + 1);
                }
            }
        }
    }

    private static void readings() {
        sheet.under("II, TIME");
        sheet.says("The first STEP is read at the first time from 0 on at which it can be.");
        for (int a = 0; a < 4; a++) {
            DrumPlacer x = of(HEAD + "step a halt at " + a + ";");
            sheet.due("first STEP at " + a, x.done(0, 2), a);
        }
        sheet.says("its operand ... is read at the first time from t and 1 and D on at which that can"
                + " be");
        for (int d = 0; d <= 9; d++) {
            for (int a = 0; a < 12; a++) {
                operandRead(d, a);
            }
        }
        sheet.says("from 1 behind its operand's on (of mul M more)");
        for (int m = 0; m <= 9; m++) {
            for (String op : new String[] {"load", "add", "sub", "mul", "store"}) {
                nextRead(m, op);
            }
        }
        sheet.says("without an operand from t and 1 and D on");
        for (int d = 0; d <= 9; d++) {
            for (int b = 1; b < 12; b++) {
                DrumPlacer x = of("drum tracks 1 sectors 12 wait " + d + " quick 0 mul 9;"
                        + "step a less b b at 0;step b halt at " + b + ";");
                sheet.due("next by wait " + d, x.done(1, 2), firstFrom(1 + d, b, 12));
                sheet.due("no operand", x.done(0, 3), -1);
            }
        }
    }

    private static void operandRead(int d, int a) {
        String drum = "drum tracks 2 sectors 12 wait " + d + " quick 0 mul 9;";
        // The first STEP is at sector 5 of the second track.
        DrumPlacer x = of(drum + "word x 1 at " + a + ";step a load x b at 17;step b halt at 20;");
        int read = firstFrom(5 + 1 + d, a, 12);
        sheet.due("a WORD's by wait " + d, x.done(0, 3), read);
        sheet.due("by another wait", of(drum.replace("wait " + d, "wait 0") + "word x 1 at " + a
                + ";step a load x b at 17;step b halt at 20;").waiting(d), x.time());
        DrumPlacer y = of(drum + "word x 1 at 22;step b move c 1 d at 17;step c load x d at " + a
                + ";step d halt at 20;");
        sheet.due("of move the STEP's", y.done(0, 3), read);
    }

    private static void nextRead(int m, String op) {
        for (int b = 0; b < 12; b++) {
            DrumPlacer x = of("drum tracks 2 sectors 12 wait 3 quick 0 mul " + m + ";word x 1 at 16;"
                    + "step a " + op + " x b at 12;step b halt at " + b + ";");
            int from = 4 + 1 + (op.equals("mul") ? m : 0);
            sheet.due("next behind " + op + " by " + m, x.done(1, 2), firstFrom(from, b, 12));
        }
        DrumPlacer y = of("drum tracks 2 sectors 12 wait 3 quick 0 mul " + m + ";word x 1 at 0;"
                + "step a move c 1 b at 12;step b halt at 17;step c mul x b at 16;");
        sheet.due("next behind move by " + m, y.done(1, 2), 5);
    }

    private static void ofRun() {
        sheet.under("II, TIME");
        sheet.says("TIME of RUN: 1 more than the last reading (M more, if that was of a mul's"
                + " operand)");
        for (int m = 0; m <= 9; m++) {
            String drum = "drum tracks 1 sectors 2 wait 0 quick 1 mul " + m + ";word x 1;";
            for (String op : new String[] {"load", "add", "sub", "mul", "store"}) {
                DrumPlacer x = of(drum + "step a " + op + " x a;");
                int more = op.equals("mul") ? m : 0;
                sheet.due("a " + op + " last, mul " + m, x.time(), x.done(99, 3) + 1 + more);
                sheet.due("a " + op + " last, mul " + m, x.time(), 100 * (2 + more));
            }
            DrumPlacer y = of(drum + "step a halt;");
            sheet.due("a halt last", y.time(), 1);
        }
        for (int d = 0; d <= 9; d++) {
            DrumPlacer x = of("drum tracks 1 sectors 2 wait " + d + " quick 1 mul 9;step a less a a;");
            sheet.due("no wait behind the last", x.time(), 99 * (1 + d) + 1);
            sheet.due("a halt alone, wait " + d, of("drum tracks 1 sectors 2 wait " + d
                    + " quick 1 mul 9;step a halt;").time(), 1);
        }
        DrumPlacer z = of("drum tracks 1 sectors 4 wait 0 quick 1 mul 5;word x 1;step a mul x b;"
                + "step b move a 1 a;");
        sheet.due("a move last", z.time(), 50 * (2 + 5 + 2));

        sheet.says("LOST for an ITEM: times passed between the time from which on it was waited for"
                + " and its reading (for the first STEP: from 0 on)");
        for (int a = 0; a < 12; a++) {
            for (int b = 0; b < 12; b++) {
                lostBetween(a, b);
            }
        }
    }

    private static void lostBetween(int a, int b) {
        DrumPlacer x = of("drum tracks 2 sectors 12 wait 2 quick 0 mul 4;word x 1 at " + a
                + ";step a mul x b at " + (12 + b) + ";step b halt at " + (12 + (b + 1) % 12) + ";");
        int operand = firstFrom(b + 3, a, 12);
        int last = firstFrom(operand + 5, (b + 1) % 12, 12);
        sheet.due("for the first STEP", x.lostFor(1), b);
        sheet.due("for its operand", x.lostFor(0), operand - b - 3);
        sheet.due("for the next STEP", x.lostFor(2), last - operand - 5);
        sheet.due("in all", x.lost(), x.lostFor(0) + x.lostFor(1) + x.lostFor(2));
    }

    /** Acts come and are taken back till 511 calls are done; the last of them lays by LAW 0. */
    private static void mostCalls() {
        sheet.under("What it is");
        sheet.says("An object is used for at most 512 calls after it has been made");
        DrumPlacer x = new DrumPlacer();
        int calls = (SMALL.length() + 19) / 20 + 3;
        Texts.tell(x, SMALL);
        for (; calls < 511; calls++) {
            if (calls % 3 == 0) {
                x.lays(calls % 2);
            } else if (calls % 3 == 1) {
                x.undo();
            } else {
                x.put(-1, 0);
            }
        }
        sheet.due("the last call", x.time(), 7);
        DrumPlacer y = new DrumPlacer();
        for (int k = 0; k < 511; k++) {
            y.feed(k, k, k, k, k);
        }
        sheet.due("the last call", y.count(10), 700);
    }

    // ---- Promises 1 to 5

    private static void newObject() {
        sheet.under("Promise 1");
        sheet.says("No DRUM.");
        DrumPlacer x = new DrumPlacer();
        for (int what = 0; what <= 10; what++) {
            sheet.due("count " + what, x.count(what), 0);
        }
        sheet.due("item", x.item(0, 0), -2);
        sheet.due("at", x.at(0), -2);
        sheet.due("fault", x.fault(0), 0);
        sheet.due("undo", x.undo(), -2);
        sheet.due("anew", x.anew(), -2);
        sheet.due("objects have nothing in common", firstOfTwo(), 0);
    }

    private static int firstOfTwo() {
        DrumPlacer one = new DrumPlacer();
        DrumPlacer other = of(SMALL);
        other.feed(1, 2, 3, 4, 5);
        return one.count(9) + one.count(10) + one.count(5) + new DrumPlacer().count(9);
    }

    private static void feeding() {
        sheet.under("Promise 2");
        sheet.says("Twenty bytes come behind the TAPE, four of each number, the highest first");
        for (int k = 0; k < 20; k++) {
            // Blanks but for one byte: its place tells where it came, and so which one it was.
            int[] n = {0x20202020, 0x20202020, 0x20202020, 0x20202020, 0x20202020};
            n[k / 4] ^= (0x20 ^ 0x80) << (24 - 8 * (k % 4));
            DrumPlacer x = new DrumPlacer();
            x.feed(n[0], n[1], n[2], n[3], n[4]);
            x.drum();
            sheet.due("the " + k + "th byte", x.fault(1), k);
            x.feed(0x20202020, 0x20202020, 0x20202020, 0x20202020, 0x20202020);
            x.end(7);
            x.feed(n[0], n[1], n[2], n[3], n[4]);
            x.drum();
            sheet.due("the " + k + "th byte behind seven", x.fault(1), 7 + k);
        }
        sheet.says("how many it has");
        DrumPlacer y = new DrumPlacer();
        for (int k = 1; k <= 35; k++) {
            sheet.due("feed", y.feed(MIN, MAX, -1, 0, 1), 20 * k);
            sheet.due("count", y.count(10), 20 * k);
        }
        sheet.says("NONE, and none come, if it would have more than 700");
        sheet.due("720", y.feed(0, 0, 0, 0, 0), -1);
        sheet.due("none came", y.count(10), 700);
        for (int n = 699; n >= 675; n--) {
            y.end(n);
            boolean room = n + 20 <= 700;
            sheet.due("behind " + n, y.feed(0, 0, 0, 0, 0), room ? n + 20 : -1);
            sheet.due("it has", y.count(10), room ? n + 20 : n);
        }
        noneCame();
    }

    /** What was refused must not have changed a byte of what is there. */
    private static void noneCame() {
        DrumPlacer x = new DrumPlacer();
        for (int k = 0; k < 35; k++) {
            x.feed(0x20202020, 0x20202020, 0x20202020, 0x20202020, 0x20202020);
        }
        x.feed(-1, -1, -1, -1, -1);
        sheet.due("blanks alone", x.drum(), 0);
        sheet.due("feed behind drum()", x.feed(0, 0, 0, 0, 0), 20);
    }

    private static void endOfTape() {
        sheet.under("Promise 3");
        sheet.says("The TAPE has its first n bytes alone: n");
        DrumPlacer x = new DrumPlacer();
        sheet.due("none of none", x.end(0), 0);
        for (int k = 0; k < 35; k++) {
            x.feed(0x20202020, 0x20202020, 0x20202020, 0x20202020, 0x20202080);
        }
        sheet.due("all", x.end(700), 700);
        sheet.due("it has", x.count(10), 700);
        sheet.due("less one", x.end(699), 699);
        sheet.due("it has", x.count(10), 699);
        sheet.due("first 19 alone", x.end(19), 19);
        sheet.due("they are blanks", x.drum(), 0);
        sheet.due("none", x.end(0), 0);
        sheet.says("NONE, and nothing happens, if it has not so many");
        sheet.due("one of none", x.end(1), -1);
        x.feed(0, 0, 0, 0, 0);
        for (int n : new int[] {21, 22, 700, 701, MAX}) {
            sheet.due("end " + n, x.end(n), -1);
            sheet.due("nothing happens", x.count(10), 20);
        }
        x.end(5);
        sheet.due("what was cut off does not come back", x.end(6), -1);
        sheet.due("nothing happens", x.count(10), 5);
        sheet.says("or n is below 0");
        for (int n : new int[] {-1, -2, -20, MIN}) {
            sheet.due("end " + n, x.end(n), -1);
            sheet.due("nothing happens", x.count(10), 5);
        }
    }

    private static void telling() {
        sheet.under("Promise 4");
        sheet.says("The TAPE (empty then) tells the DRUM");
        DrumPlacer x = new DrumPlacer();
        Texts.tell(x, SMALL);
        sheet.due("empty", x.count(10), 0);
        Texts.tell(x, SMALL + "?");
        sheet.due("empty behind a fault too", x.count(10), 0);
        sheet.due("feed", x.feed(0, 0, 0, 0, 0), 20);
        sheet.says("(in place of others)");
        Texts.tell(x, NO_STEP);
        sheet.due("its WORDS", x.count(5), 2);
        sheet.due("its STEPS", x.count(6), 0);
        sheet.due("no third ITEM", x.item(2, 0), -2);
        sheet.due("no RUN", x.time(), -2);
        sheet.says("laid by LAW 0, no acts");
        Texts.tell(x, SMALL);
        x.lays(1);
        x.put(0, 3);
        Texts.tell(x, SMALL);
        sheet.due("laid", x.item(0, 1) * 100 + x.item(1, 1) * 10 + x.item(2, 1), 12);
        sheet.due("acts", x.count(8), 0);
        sheet.due("none to take back", x.undo(), -5);
        sheet.due("around FIXED ones", of(HEAD + "word p 1;word q 1 at 0;step a halt;"
                + "word r 1 at 2;").item(2, 1), 3);
        sheet.says("how many LINES");
        sheet.due("one", Texts.tell(x, HEAD), 1);
        sheet.due("four", Texts.tell(x, SMALL), 4);
        sheet.says("(0: there is none then)");
        x.put(0, 3);
        sheet.due("an empty TAPE", x.drum(), 0);
        dueNoDrum(x);
        Texts.tell(x, "drum tracks 4 sectors 12 wait 9 quick 6 mul 9;" + mostItems());
        sheet.due("blanks alone", Texts.tell(x, " \n"), 0);
        dueNoDrum(x);
        faultStays();
    }

    private static void dueNoDrum(DrumPlacer x) {
        for (int what = 0; what <= 10; what++) {
            sheet.due("count " + what, x.count(what), 0);
        }
        sheet.due("fault", x.fault(0), 0);
        sheet.due("place", x.fault(1), -1);
        sheet.due("item", x.item(0, 0), -2);
        sheet.due("at", x.at(0), -2);
        sheet.due("steps", x.steps(), -2);
        sheet.due("acc", x.acc(), -20000);
        sheet.due("value", x.value(0), -20000);
        sheet.due("done", x.done(0, 0), -20002);
        sheet.due("time", x.time(), -2);
        sheet.due("ways", x.ways(), -2);
        sheet.due("undo", x.undo(), -2);
        sheet.due("anew", x.anew(), -2);
    }

    private static void faultStays() {
        sheet.says("-4: a FAULT (all else stays)");
        String[] faulty = {"?", "drum tracks 3 sectors 5 wait 1 quick 0 mul 1;word y 1;word z ^",
            "drum tracks 3 sectors 5 wait 1 quick 0 mul 1;word x 8;step c load x nobody;",
            "drum tracks 1 sectors 2 wait 0 quick 0 mul 0;word x 1;word y 1;word z 1;"};
        DrumPlacer x = of(SMALL);
        x.put(0, 3);
        for (String text : faulty) {
            sheet.due("drum", Texts.tell(x, text), -4);
            sheet.due("LINES", x.count(9), 4);
            sheet.due("SECTORS", x.count(1), 4);
            sheet.due("MUL", x.count(4), 2);
            sheet.due("acts", x.count(8), 1);
            sheet.due("laid", x.item(0, 1) * 100 + x.item(1, 1) * 10 + x.item(2, 1), 312);
            sheet.due("TIME", x.time(), 7);
            sheet.due("value", x.value(0), 3);
            sheet.due("ways", x.ways(), 1);
        }
        sheet.due("undo", x.undo(), 0);
        DrumPlacer y = new DrumPlacer();
        sheet.due("a fault at first", Texts.tell(y, faulty[2]), -4);
        sheet.due("no DRUM still", y.count(9), 0);
        sheet.due("no DRUM still", y.undo(), -2);
    }

    private static void faultAnswers() {
        sheet.under("Promise 5");
        sheet.says("Of the latest drum()");
        DrumPlacer x = new DrumPlacer();
        Texts.tell(x, HEAD + "?");
        sheet.due("its FAULT", x.fault(0), 1);
        sheet.due("its place", x.fault(1), 45);
        Texts.tell(x, "drum tracks 5");
        sheet.due("another FAULT", x.fault(0), 2);
        sheet.due("its place", x.fault(1), 12);
        Texts.feed(x, HEAD);
        sheet.due("till drum() comes", x.fault(0), 2);
        sheet.says("0 without, 1: its place (NONE without)");
        x.drum();
        sheet.due("without", x.fault(0), 0);
        sheet.due("without", x.fault(1), -1);
        Texts.tell(x, "?");
        sheet.due("place 0 is a place", x.fault(1), 0);
        x.drum();
        sheet.due("an empty TAPE", x.fault(0), 0);
        sheet.due("an empty TAPE", x.fault(1), -1);
        sheet.says("NONE for another what, and ahead of any (what 1)");
        Texts.tell(x, "drum?");
        for (int what : new int[] {-1, -2, 2, 3, 10, MIN, MAX}) {
            sheet.due("fault " + what, x.fault(what), -1);
            sheet.due("ahead of any, fault " + what, new DrumPlacer().fault(what), -1);
        }
        sheet.due("ahead of any", new DrumPlacer().fault(1), -1);
        sheet.due("ahead of any", new DrumPlacer().fault(0), 0);
    }

    // ---- Promises 6 to 13

    private static void counting() {
        sheet.under("Promise 6");
        sheet.says("0 TRACKS, 1 SECTORS, 2 WAIT, 3 QUICK, 4 MUL, 5 WORDS, 6 STEPS, 7 ITEMS that are"
                + " not FIXED, 8 acts, 9 LINES, 10 bytes of the TAPE");
        DrumPlacer least = of("drum tracks 1 sectors 2 wait 0 quick 0 mul 0;");
        DrumPlacer most = of("drum tracks 4 sectors 12 wait 9 quick 6 mul 9;" + mostItems());
        int[] ofLeast = {1, 2, 0, 0, 0, 0, 0, 0, 0, 1, 0};
        int[] ofMost = {4, 12, 9, 6, 9, 8, 12, 20, 20, 21, 700};
        for (int k = 0; k < 20; k++) {
            most.put(0, 20 + k);
        }
        for (int k = 0; k < 35; k++) {
            most.feed(0, 0, 0, 0, 0);
        }
        for (int what = 0; what <= 10; what++) {
            sheet.due("the least, " + what, least.count(what), ofLeast[what]);
            sheet.due("the most, " + what, most.count(what), ofMost[what]);
        }
        sheet.due("all FIXED", of(HEAD + "word x 1 at 0;step a halt at 3;").count(7), 0);
        sheet.due("one FIXED", of(HEAD + "word x 1;step a halt at 0;").count(7), 1);
        sheet.says("NONE for others");
        for (int what : new int[] {-1, -2, 11, 12, 100, MIN, MAX}) {
            sheet.due("count " + what, most.count(what), -1);
            sheet.due("no DRUM, count " + what, new DrumPlacer().count(what), -1);
        }
    }

    private static String mostItems() {
        StringBuilder text = new StringBuilder();
        for (char c = 'a'; c < 'i'; c++) {
            text.append("word ").append(c).append(" 1;");
        }
        for (char c = 'i'; c < 'u'; c++) {
            text.append("step ").append(c).append(" halt;");
        }
        return text.toString();
    }

    private static void items() {
        sheet.under("Promise 7");
        sheet.says("-2: there are none such");
        DrumPlacer x = of(ROOMY + mostItems());
        for (int what = 0; what <= 3; what++) {
            sheet.due("no ITEM below 0", x.item(-1, what), -2);
            sheet.due("no 21st ITEM", x.item(20, what), -2);
            sheet.due("far off", x.item(MIN, what), -2);
            sheet.due("far off", x.item(MAX, what), -2);
            sheet.due("no DRUM", new DrumPlacer().item(0, what), -2);
            sheet.due("no ITEM", of(HEAD).item(0, what), -2);
            sheet.due("a WORD alone", of(HEAD + "word x 1;").item(1, what), -2);
        }
        for (int what : new int[] {-1, -2, 4, 5, MIN, MAX}) {
            sheet.due("another what " + what, x.item(0, what), -2);
            sheet.due("another what " + what, x.item(19, what), -2);
        }
        sheet.says("what 0: 0 a WORD, 1 a STEP, 1: its ADDRESS now, 2: 1 if it is FIXED, else 0");
        sheet.due("the first", x.item(0, 0), 0);
        sheet.due("the last", x.item(19, 0), 1);
        sheet.due("ADDRESS of the first", x.item(0, 1), 0);
        sheet.due("ADDRESS of the last", x.item(19, 1), 19);
        x.put(19, 47);
        sheet.due("ADDRESS now", x.item(19, 1), 47);
        sheet.due("not FIXED by an act", x.item(19, 2), 0);
        x.undo();
        sheet.due("ADDRESS now", x.item(19, 1), 19);
        DrumPlacer y = of(HEAD + "word x 1 at 0;step a halt at 3;");
        sheet.due("FIXED at 0", y.item(0, 2), 1);
        sheet.due("FIXED at 3", y.item(1, 2), 1);
        sheet.due("a DRUM without a STEP", of(NO_STEP).item(1, 2), 1);
        sheet.says("(0 load, 1 add, 2 sub, 3 mul, 4 store, 5 less, 6 move, 7 halt; NONE: a WORD)");
        DrumPlacer z = of(ROOMY + "word x 1;step a load x a;step b add x a;step c sub x a;"
                + "step d mul x a;step e store x a;step f less a a;step g move a 1 a;step h halt;");
        for (int k = 0; k <= 8; k++) {
            sheet.due("OP of " + k, z.item(k, 3), k - 1);
        }
    }

    private static void atAddress() {
        sheet.under("Promise 8");
        sheet.says("The ITEM at an ADDRESS. NONE: none");
        DrumPlacer x = of("drum tracks 2 sectors 3 wait 0 quick 0 mul 0;step a halt at 5;word x 1;");
        int[] there = {1, -1, -1, -1, -1, 0};
        for (int a = 0; a < 6; a++) {
            sheet.due("at " + a, x.at(a), there[a]);
        }
        x.put(1, 4);
        sheet.due("moved away", x.at(0), -1);
        sheet.due("moved there", x.at(4), 1);
        sheet.due("no ITEM", of(HEAD).at(0), -1);
        sheet.says("-2: there is no such ADDRESS");
        for (int a : new int[] {-1, -2, 6, 7, 48, MIN, MAX}) {
            sheet.due("at " + a, x.at(a), -2);
        }
        sheet.due("no DRUM", new DrumPlacer().at(0), -2);
        sheet.due("no DRUM", new DrumPlacer().at(-1), -2);
        DrumPlacer full = of("drum tracks 1 sectors 2 wait 0 quick 0 mul 0;word x 1;word y 1;");
        sheet.due("a full drum", full.at(1), 1);
        sheet.due("beyond it", full.at(2), -2);
        DrumPlacer most = of(ROOMY + "word x 1 at 47;");
        sheet.due("the last one", most.at(47), 0);
        sheet.due("beyond it", most.at(48), -2);
    }

    private static void noDrumNoStep() {
        for (DrumPlacer x : new DrumPlacer[] {new DrumPlacer(), of(HEAD), of(NO_STEP)}) {
            sheet.under("Promise 9");
            sheet.says("-2: there is no DRUM, no STEP");
            sheet.due("steps", x.steps(), -2);
            sheet.under("Promise 10");
            sheet.says("-2 likewise");
            sheet.due("why", x.why(), -2);
            sheet.under("Promise 11");
            sheet.says("-20000 likewise");
            sheet.due("acc", x.acc(), -20000);
            sheet.under("Promise 12");
            sheet.says("there is no STEP");
            sheet.due("value", x.value(0), -20000);
            sheet.under("Promise 13");
            sheet.says("there is no STEP");
            sheet.due("done", x.done(0, 0), -20002);
            sheet.due("done", x.done(100, 4), -20002);
            sheet.under("Promise 14");
            sheet.says("-2: there is no DRUM, no STEP (so below)");
            sheet.due("time", x.time(), -2);
            sheet.due("rounds", x.rounds(), -2);
            sheet.due("lost", x.lost(), -2);
            sheet.due("bound", x.bound(), -2);
            sheet.under("Promise 17");
            sheet.says("-2: there is none such, no STEP");
            sheet.due("lostFor", x.lostFor(0), -2);
            sheet.under("Promise 18");
            sheet.says("-2 as time()");
            sheet.due("worst", x.worst(), -2);
            sheet.under("Promise 19");
            sheet.says("-2: there is none such, no STEP");
            sheet.due("met", x.met(0), -2);
            sheet.under("Promise 21");
            sheet.says("-2 likewise, there is none such");
            sheet.due("waiting", x.waiting(0), -2);
            sheet.under("Promise 22");
            sheet.says("-2 likewise");
            sheet.due("quicker", x.quicker(0), -2);
        }
    }

    private static void ofSteps() {
        sheet.under("Promise 9");
        sheet.says("How many STEPS RUN does");
        sheet.due("the least", of(HEAD + "step a halt;").steps(), 1);
        sheet.due("the most", of(ENDLESS).steps(), 100);
        sheet.under("Promise 10");
        sheet.says("Why it ends (1 a halt, 2 behind 100 STEPS)");
        sheet.due("a halt", of(HEAD + "step a halt;").why(), 1);
        sheet.due("behind 100", of(ENDLESS).why(), 2);
        sheet.under("Promise 11");
        sheet.says("ACC at its end");
        sheet.due("the least", of(HEAD + "word x -9999;word y -1;step a add x b;step b add y a;")
                .acc(), within(50 * -10000));
        sheet.due("-10,000", answer(-9999, "add", -1), -10000);
        sheet.due("9,999", answer(9999, "add", 0), 9999);
        sheet.under("Promise 12");
        sheet.says("-20000: it is none");
        DrumPlacer x = of(HEAD + "word x 3;step a halt;word y 4;");
        for (int item : new int[] {-1, -2, 1, 3, 4, 20, MIN, MAX}) {
            sheet.due("value " + item, x.value(item), -20000);
        }
        sheet.says("What a WORD (an ITEM) has at its end");
        sheet.due("by its ITEM", x.value(2), 4);
        sheet.due("by its ITEM", x.value(0), 3);
        DrumPlacer y = of(HEAD + "word x 3;word y 4;step a load x b;step b store y a;");
        sheet.due("the last of 100 is a store", y.value(1), 3);
    }

    private static void ofDone() {
        sheet.under("Promise 13");
        DrumPlacer x = of(SMALL);
        sheet.says("(NONE: none)");
        sheet.due("of a halt", x.done(1, 1), -1);
        sheet.due("of a less", of(ENDLESS).done(0, 1), -1);
        sheet.says("(NONE likewise)");
        sheet.due("of a halt", x.done(1, 3), -1);
        sheet.due("of a less", of(ENDLESS).done(99, 3), -1);
        sheet.says("NONE - 20000: it does not so many");
        for (int what = 0; what <= 4; what++) {
            for (int k : new int[] {2, 3, 99, 100, 101, MAX}) {
                sheet.due("done " + k + " " + what, x.done(k, what), -20001);
            }
        }
        DrumPlacer most = of(ENDLESS);
        sheet.due("the last one", most.done(99, 0), 0);
        sheet.due("behind the last one", most.done(100, 0), -20001);
        sheet.says("-20000 - 2: k is below 0, another what");
        for (int what = 0; what <= 4; what++) {
            sheet.due("k -1", x.done(-1, what), -20002);
            sheet.due("k far off", x.done(MIN, what), -20002);
        }
        for (int what : new int[] {-1, -2, 5, 6, MIN, MAX}) {
            sheet.due("what " + what, x.done(0, what), -20002);
            sheet.due("what " + what + " behind the last", x.done(2, what), -20002);
            sheet.due("what " + what + ", k -1", x.done(-1, what), -20002);
        }
        sheet.says("Of the k-th STEP done (from 0), what 0: its ITEM, 1: the ITEM of its operand"
                + " (NONE: none), 2: WHEN it is read, 3: WHEN its operand is");
        int[][] want = {{1, 0, 1, 4, 3}, {2, -1, 6, -1, 3}};
        for (int k = 0; k < 2; k++) {
            for (int what = 0; what <= 4; what++) {
                sheet.due("done " + k + " " + what, x.done(k, what), want[k][what]);
            }
        }
        sheet.says("4: ACC behind it");
        DrumPlacer y = of(HEAD + "word x 9999;word y 1;step a add x b;step b add y a;");
        int acc = 0;
        for (int k = 0; k < 100; k++) {
            acc = within(acc + (k % 2 == 0 ? 9999 : 1));
            sheet.due("ACC behind " + k, y.done(k, 4), acc);
        }
    }

    // ---- Promises 14 to 22

    private static void ofTime() {
        sheet.under("Promise 14");
        sheet.says("TIME of RUN");
        sheet.due("the least", of(HEAD + "step a halt;").time(), 1);
        // 100 times: 12 times 2 for a turn that is just missed, both for WORD and STEP.
        DrumPlacer slow = of("drum tracks 1 sectors 12 wait 9 quick 0 mul 9;word x 1 at 9;"
                + "step a mul x a at 0;");
        sheet.due("just missed", slow.time(), 100 * 36 - 36 + 21 + 1 + 9);
        sheet.under("Promise 15");
        sheet.says("TIME by SECTORS (cut): whole turns");
        for (int a = 0; a < 4; a++) {
            for (int s : new int[] {4, 5, 12}) {
                DrumPlacer x = of(HEAD.replace("sectors 4", "sectors " + s) + "step a halt at "
                        + a + ";");
                sheet.due("TIME " + (a + 1) + " by " + s, x.rounds(), a + 1 >= s ? 1 : 0);
            }
        }
        sheet.due("whole", of(HEAD + "step a less b b at 2;step b halt at 3;").rounds(), 1);
        sheet.due("one more", of(HEAD + "step a less b b at 3;step b halt at 0;").rounds(), 1);
        sheet.due("one less than two", of(HEAD + "step a less b b at 3;step b halt at 2;").rounds(),
                1);
        sheet.due("two", of(HEAD + "step a less b b at 0;step b less c c at 3;step c halt at 2;")
                .rounds() + of(HEAD + "step a less b b at 2;step b less c c at 1;"
                + "step c halt at 3;").rounds(), 1 + 2);
    }

    private static void ofLost() {
        sheet.under("Promise 16");
        sheet.says("How many word times were LOST in all");
        sheet.due("none", of(HEAD + "step a less b b at 0;step b halt at 1;").lost(), 0);
        sheet.due("for the first STEP too", of(HEAD + "step a halt at 3;").lost(), 3);
        sheet.due("just missed", of(HEAD + "step a less b b at 1;step b less a a at 0;").lost(),
                1 + 50 * 2);
        sheet.under("Promise 17");
        DrumPlacer x = of(SMALL);
        sheet.says("-2: there is none such");
        for (int item : new int[] {-1, -2, 3, 4, 20, MIN, MAX}) {
            sheet.due("lostFor " + item, x.lostFor(item), -2);
        }
        sheet.says("How many for an ITEM");
        sheet.due("never read", of(HEAD + "word x 1;step a halt;").lostFor(0), 0);
        sheet.due("read without a loss", of(HEAD + "step a halt;").lostFor(0), 0);
        sheet.due("the first STEP", x.lostFor(1), 1);
        sheet.due("the last ITEM", x.lostFor(2), 1);
        sheet.under("Promise 18");
        sheet.says("The ITEM for which most were, the first of several");
        sheet.due("most", x.worst(), 0);
        String two = "drum tracks 1 sectors 6 wait 0 quick 0 mul 0;";
        sheet.due("two alike", of(two + "step a less b b at 2;step b halt at 5;").worst(), 0);
        sheet.due("two alike", of(two + "word x 1 at 0;step a less b b at 2;step b halt at 5;")
                .worst(), 1);
        sheet.due("the later one more", of(two + "step a less b b at 1;step b halt at 4;").worst(),
                1);
        sheet.due("the later one less", of(two + "step a less b b at 2;step b halt at 4;").worst(),
                0);
        sheet.says("NONE: none was");
        sheet.due("none", of(HEAD + "step a halt;").worst(), -1);
        sheet.due("none of two", of(HEAD + "step a less b b;step b halt;").worst(), -1);
        sheet.due("one", of(HEAD + "word x 1;step a halt;").worst(), 1);
        sheet.under("Promise 19");
        sheet.says("-2: there is none such");
        for (int item : new int[] {-1, -2, 3, 4, 20, MIN, MAX}) {
            sheet.due("met " + item, x.met(item), -2);
        }
        sheet.says("How often an ITEM was read");
        sheet.due("never", of(HEAD + "word x 1;step a halt;").met(0), 0);
        sheet.due("never, a STEP", of(HEAD + "step a halt;step b halt;").met(1), 0);
        sheet.due("once", of(HEAD + "step a halt;").met(0), 1);
        sheet.due("the most", of(ENDLESS).met(0), 100);
        DrumPlacer y = of(HEAD + "word x 1;step a load x b;step b move a 1 a;");
        sheet.due("as a STEP and as an operand", y.met(1), 100);
        sheet.due("as a STEP", y.met(2), 50);
        sheet.due("as an operand", y.met(0), 50);
    }

    private static void ofBound() {
        sheet.under("Promise 20");
        sheet.says("TIME, if nothing were LOST, but for the first STEP");
        for (int a = 0; a < 12; a++) {
            for (int d = 0; d <= 9; d += 3) {
                DrumPlacer x = of("drum tracks 3 sectors 12 wait " + d + " quick 0 mul 7;"
                        + "word x 1 at 24;step a mul x b at " + a + ";step b less c c at 12;"
                        + "step c halt at 13;");
                sheet.due("first STEP at " + a, x.bound(), a + 1 + d + 1 + 7 + 1 + d + 1);
            }
        }
        sheet.due("a halt alone", of(HEAD + "step a halt at 3;").bound(), 4);
        sheet.due("a mul last", of("drum tracks 1 sectors 12 wait 2 quick 0 mul 9;word x 1 at 7;"
                + "step a mul x a at 5;").bound(), 5 + 100 * (1 + 2 + 1 + 9));
        sheet.due("the first STEP read again", of(HEAD + "step a less b b at 1;"
                + "step b less a a at 3;").bound(), 1 + 100);
        DrumPlacer y = of(SMALL);
        int bound = y.bound();
        y.put(2, 3);
        sheet.due("another STEP moved", y.bound(), bound);
    }

    private static void otherwise() {
        sheet.under("Promise 21");
        sheet.says("TIME, were WAIT w (0 .. 9)");
        String text = "drum tracks 2 sectors 10 wait 4 quick 0 mul 3;word x 1;word y 2 at 17;"
                + "step a mul x b;step b less c d at 3;step c halt;step d store y c at 9;";
        DrumPlacer x = of(text);
        for (int w = 0; w <= 9; w++) {
            sheet.due("wait " + w, x.waiting(w), of(text.replace("wait 4", "wait " + w)).time());
        }
        sheet.due("nothing happens", x.count(2), 4);
        sheet.due("nothing happens", x.time(), x.waiting(4));
        sheet.says("there is none such");
        for (int w : new int[] {-1, -2, 10, 11, MIN, MAX}) {
            sheet.due("wait " + w, x.waiting(w), -2);
        }
        sheet.under("Promise 22");
        for (int s = 2; s <= 12; s++) {
            quickerOf(s);
        }
    }

    private static void quickerOf(int s) {
        String text = "drum tracks 2 sectors " + s + " wait 1 quick 0 mul 3;word x 1 at " + (s + 1)
                + ";step a mul x b at " + (2 * s - 1) + ";step b halt at " + s + ";";
        if (s == 2) {
            text = text.replace("at 3;step b", "at 1;step b");
        }
        DrumPlacer x = of(text);
        for (int q = 0; q <= 13; q++) {
            boolean may = q == 0 || q < s && s % q == 0;
            sheet.says(may ? "TIME, were QUICK q (0, or such as may be told)" : "-2 likewise");
            sheet.due("quick " + q + " of " + s, x.quicker(q), may
                    ? of(text.replace("quick 0", "quick " + q)).time() : -2);
        }
        for (int q : new int[] {-1, -2, -s, 2 * s, MIN, MAX}) {
            sheet.says("-2 likewise");
            sheet.due("quick " + q + " of " + s, x.quicker(q), -2);
        }
        sheet.says("TIME, were QUICK q (0, or such as may be told)");
        sheet.due("nothing happens", x.count(3), 0);
    }

    public static void main(String[] args) throws IOException {
        begin();
        wrapAround();
        goingOn();
        ending();
        readable();
        readings();
        ofRun();
        mostCalls();
        newObject();
        feeding();
        endOfTape();
        telling();
        faultAnswers();
        counting();
        items();
        atAddress();
        noDrumNoStep();
        ofSteps();
        ofDone();
        ofTime();
        ofLost();
        ofBound();
        otherwise();
        sheet.close();
    }
}
