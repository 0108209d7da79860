import java.util.Arrays;

/** For each promise of the document: ordinary inputs, the edges that it names, wrong inputs. */
public final class PromiseTests {
    private static final int MIN = Integer.MIN_VALUE;
    private static final int MAX = Integer.MAX_VALUE;
    private static final String HEAD = "drum tracks 1 sectors 4 wait 0 quick 0 mul 0;";
    private static final String SMALL =
            "drum tracks 1 sectors 4 wait 0 quick 0 mul 2;word x 3;step a load x b;step b halt;";
    /** Counted by hand: 9 STEPS, TIME 87, 57 of it LOST. */
    private static final String LOOP = "drum tracks 1 sectors 10 wait 2 quick 0 mul 0;"
            + "word n -3;word one 1;step a load n b;step b add one c;step c less b d;"
            + "step d store n e;step e halt;";
    private static final String NO_STEP = HEAD + "word x 5;word y 6 at 0;";
    /** All is on the last track of two; QUICK 2; a at sector 0, x at 3, b at 1. */
    private static final String QUICK = "drum tracks 2 sectors 4 wait 0 quick 2 mul 0;"
            + "word x 1 at 7;step a load x b at 4;step b halt at 5;";
    private static final String FIVE_LOOSE = "drum tracks 1 sectors 8 wait 0 quick 0 mul 0;"
            + "word p 1;word q 1;word r 1;step a add p b;step b halt;";

    private static int promise = 0;
    private static int wrong = 0;
    private static final int[] asked = new int[37];

    private static void due(String call, long got, long want) {
        asked[promise]++;
        if (got != want) {
            wrong++;
            System.out.println("promise " + promise + ": " + call + " answered " + got
                    + ", due is " + want);
        }
    }

    private static DrumPlacer of(String text) {
        DrumPlacer x = new DrumPlacer();
        int lines = Texts.tell(x, text);
        if (lines < 0) {
            due("drum() of " + text, lines, 0);
        }
        return x;
    }

    private static void dueFault(String text, int fault, int place) {
        DrumPlacer x = new DrumPlacer();
        int lines = Texts.tell(x, text);
        due("drum() of " + text, lines < 0 ? lines : 0, fault == 0 ? 0 : -4);
        due("fault(0) of " + text, x.fault(0), fault);
        due("fault(1) of " + text, x.fault(1), place);
    }

    /** A text behind HEAD; the place is counted from its own first byte. */
    private static void dueBehindHead(String text, int fault, int place) {
        dueFault(HEAD + text, fault, fault == 0 ? -1 : HEAD.length() + place);
    }

    private static void feedOnce(DrumPlacer x) {
        x.feed(0, 0, 0, 0, 0);
    }

    private static void newObject() {
        DrumPlacer x = new DrumPlacer();
        for (int what = 0; what <= 10; what++) {
            due("count", x.count(what), 0);
        }
        due("at", x.at(0), -2);
        due("item", x.item(0, 0), -2);
        due("time", x.time(), -2);
        due("undo", x.undo(), -2);
        due("anew", x.anew(), -2);
        due("drum", x.drum(), 0);
        due("NONE", DrumPlacer.NONE, -1);
    }

    private static void feed() {
        DrumPlacer x = new DrumPlacer();
        for (int k = 1; k <= 35; k++) {
            due("feed", x.feed(0x64000000, 0, MIN, MAX, -1), 20 * k);
        }
        due("feed beyond", x.feed(1, 2, 3, 4, 5), -1);
        due("none came", x.count(10), 700);
        due("end", x.end(681), 681);
        due("feed beyond by one", x.feed(1, 2, 3, 4, 5), -1);
        due("none came", x.count(10), 681);
        due("end", x.end(680), 680);
        due("feed to the brim", x.feed(1, 2, 3, 4, 5), 700);
        // The highest byte first: a letter, then bytes that are no token.
        x.end(0);
        x.feed(0x20203B00, 0, 0, 0, 0);
        x.drum();
        due("first token", x.fault(1), 2);
        due("its fault", x.fault(0), 1);
        x.feed(0x20202020, 0x20200A0A, 0x0A0A2080, 0, 0);
        x.drum();
        due("a byte above 127", x.fault(1), 11);
    }

    private static void end() {
        DrumPlacer x = new DrumPlacer();
        due("end of none", x.end(0), 0);
        due("more than none", x.end(1), -1);
        feedOnce(x);
        due("below 0", x.end(-1), -1);
        due("far below 0", x.end(MIN), -1);
        due("more than it has", x.end(21), -1);
        due("far more", x.end(MAX), -1);
        due("nothing happened", x.count(10), 20);
        due("all", x.end(20), 20);
        due("some", x.end(7), 7);
        due("not again", x.end(8), -1);
        due("bytes", x.count(10), 7);
        due("behind it", x.feed(0, 0, 0, 0, 0), 27);
    }

    private static void drum() {
        DrumPlacer x = new DrumPlacer();
        due("lines", Texts.tell(x, SMALL), 4);
        due("the tape is empty", x.count(10), 0);
        due("laid by law 0", x.item(2, 1), 2);
        x.put(2, 3);
        due("a fault", Texts.tell(x, SMALL + ";"), -4);
        due("the tape is empty then too", x.count(10), 0);
        due("all else stays: lines", x.count(9), 4);
        due("all else stays: acts", x.count(8), 1);
        due("all else stays: laying", x.item(2, 1), 3);
        due("all else stays: run", x.acc(), 3);
        due("a late fault", Texts.tell(x, LOOP + "step f load f f;"), -4);
        due("all else stays: sectors", x.count(1), 4);
        due("all else stays: time", x.time(), 8);
        due("another in its place", Texts.tell(x, LOOP), 8);
        due("no acts", x.count(8), 0);
        due("its items", x.count(5) * 100 + x.count(6), 205);
        due("its time", x.time(), 87);
        due("blanks alone", Texts.tell(x, " \n "), 0);
        for (int what = 0; what <= 10; what++) {
            due("there is none then, count " + what, x.count(what), 0);
        }
        due("no items", x.item(0, 0), -2);
        due("no lines", x.count(9), 0);
        due("no run", x.steps(), -2);
        due("no law", x.lawful(2), -2);
        due("only a drum", Texts.tell(x, HEAD), 1);
        due("an empty tape", x.drum(), 0);
        due("most of all", Texts.tell(x, mostOfAll()), 21);
        due("its items", x.count(5) * 100 + x.count(6), 812);
        due("law 0 around fixed ones", of(HEAD
                + "word p 1;word q 1 at 0;word r 1;word s 1 at 2;").item(2, 1), 3);
    }

    private static String mostOfAll() {
        StringBuilder text = new StringBuilder("drum tracks 2 sectors 10 wait 9 quick 5 mul 9;");
        for (char c = 'a'; c < 'i'; c++) {
            text.append("word ").append(c).append(" 9999;");
        }
        for (char c = 'i'; c < 'u'; c++) {
            text.append("step ").append(c).append(" mul a i;");
        }
        return text.toString();
    }

    private static void faultAnswers() {
        DrumPlacer x = new DrumPlacer();
        due("ahead of any", x.fault(0), 0);
        due("place ahead of any", x.fault(1), -1);
        due("another what", x.fault(2), -1);
        due("another what", x.fault(-1), -1);
        due("another what", x.fault(MIN), -1);
        Texts.tell(x, "x");
        due("its fault", x.fault(0), 1);
        due("its place", x.fault(1), 0);
        Texts.tell(x, SMALL);
        due("of the latest alone", x.fault(0), 0);
        due("its place", x.fault(1), -1);
    }

    private static void faultsOfDrumLine() {
        dueFault("", 0, -1);
        dueFault(";", 1, 0);
        dueFault("  ;", 1, 2);
        dueFault("word x 1;", 1, 0);
        dueFault("drum", 1, 4);
        dueFault("drum  ", 1, 6);
        dueFault("drums tracks", 1, 0);
        dueFault("drum sectors", 1, 5);
        dueFault("drum tracks x", 1, 12);
        dueFault("drum tracks -1", 1, 12);
        dueFault("drum tracks 0", 2, 12);
        dueFault("drum tracks 4x", 1, 13);
        dueFault("drum tracks 5", 2, 12);
        dueFault("drum tracks 99999999999999999999999999999", 2, 12);
        dueFault("drum tracks 4294967297", 2, 12);
        dueFault("drum tracks 000000000004 sectors 1", 2, 33);
        dueFault("drum tracks1sectors13", 2, 19);
        dueFault("drum tracks 1 sectors 12 wait 10", 2, 30);
        dueFault("drum tracks 1 sectors 12 wait 9 quick 12 mul 0;", 2, 38);
        dueFault("drum tracks 1 sectors 12 wait 9 quick 5 mul 0;", 2, 38);
        dueFault("drum tracks 1 sectors 12 wait 9 quick 24 mul 0;", 2, 38);
        dueFault("drum tracks 1 sectors 12 wait 9 quick mul 0;", 1, 38);
        dueFault("drum tracks 1 sectors 12 wait 9 quick 6 mul 10;", 2, 44);
        dueFault("drum tracks 1 sectors 12 wait 9 quick 6 mul 9 ;", 0, -1);
        dueFault("drum tracks 1 sectors 2 wait 0 quick 1 mul 0;", 0, -1);
        dueFault("drum\ntracks 4\nsectors 12\nwait 0\nquick 0\nmul 0\n;\n", 0, -1);
        dueFault("drum\ttracks", 1, 4);
        dueFault("Drum tracks", 1, 0);
        dueFault(HEAD + "drum tracks 1 sectors 4 wait 0 quick 0 mul 0;", 1, HEAD.length());
        dueFault(HEAD + ";", 1, HEAD.length());
        dueFault("drum tracks 5 sectors 4 ?", 2, 12);
    }

    private static void faultsOfWords() {
        dueBehindHead("word x 9999;", 0, 0);
        dueBehindHead("word x - 9999;", 0, 0);
        dueBehindHead("word x-0 at3;", 0, 0);
        dueBehindHead("word x 10000;", 2, 7);
        dueBehindHead("word x -10000;", 2, 8);
        dueBehindHead("word x --1;", 1, 8);
        dueBehindHead("word x;", 1, 6);
        dueBehindHead("word 7 7;", 1, 5);
        dueBehindHead("word sixsix 7;", 0, 0);
        dueBehindHead("word sevenss 7;", 2, 5);
        dueBehindHead("word tracks 7;word wait 1;", 0, 0);
        dueBehindHead("word mord 7;word ad 1;word less 1;", 2, 27);
        dueBehindHead("word words 7;word hal 1;word malt 1;", 0, 0);
        dueBehindHead("cord x 7;", 1, 0);
        dueBehindHead("word x 7 bt 1;", 1, 9);
        for (String word : Oracle.RESERVED) {
            dueBehindHead("word " + word + " 7;", 2, 5);
            dueBehindHead("step " + word + " halt;", 2, 5);
        }
        dueBehindHead("word x 1;word x 2;", 2, 14);
        dueBehindHead("word x 1;step x halt;", 2, 14);
        dueBehindHead("word x 1 at;", 1, 11);
        dueBehindHead("word x 1 at 3;", 0, 0);
        dueBehindHead("word x 1 at 4;", 2, 12);
        dueBehindHead("word x 1 at -1;", 1, 12);
        dueBehindHead("word x 1 at 3 at 2;", 1, 14);
        dueBehindHead("word x 1 to 3;", 1, 9);
        dueBehindHead("word x 1 at 3;word y 1 at 3;", 2, 26);
        dueBehindHead("word x 1 at 3;word y 1 at 03;", 2, 26);
        dueBehindHead("word x 1", 1, 8);
        dueBehindHead("words x 1;", 1, 0);
        dueBehindHead("word x 1;;", 1, 9);
        dueBehindHead("word x 1;step y halt;word z 1 at 9?;", 2, 33);
    }

    private static void faultsOfSteps() {
        dueBehindHead("step a halt at 0;", 0, 0);
        dueBehindHead("step a halt a;", 1, 12);
        dueBehindHead("step a halts;", 1, 7);
        dueBehindHead("step a 1;", 1, 7);
        dueBehindHead("word x 1;step a toad x a;", 1, 16);
        dueBehindHead("word x 1;step a loaf x a;", 1, 16);
        dueBehindHead("step a load;", 1, 11);
        dueBehindHead("step a load x;", 1, 13);
        dueBehindHead("step a load x 1 a;", 1, 14);
        dueBehindHead("word x 1;step a load x a at 1;", 0, 0);
        dueBehindHead("word x 1;step a load x b;", 4, 23);
        dueBehindHead("word x 1;step a load x x;", 4, 23);
        dueBehindHead("word x 1;step a load a a;", 4, 21);
        dueBehindHead("word x 1;step a load y b;", 4, 21);
        dueBehindHead("step a store x a;word x 1;", 0, 0);
        dueBehindHead("step a less b b;step b halt;", 0, 0);
        dueBehindHead("word x 1;step a less x a;", 4, 21);
        dueBehindHead("word x 1;step a less a x;", 4, 23);
        dueBehindHead("word x 1;step a move b 7 a;step b sub x a;", 0, 0);
        dueBehindHead("word x 1;step a move b 8 a;step b sub x a;", 2, 23);
        dueBehindHead("word x 1;step a move b 0 a;step b sub x a;", 2, 23);
        dueBehindHead("word x 1;step a move b a;step b sub x a;", 1, 23);
        dueBehindHead("word x 1;step a move x 1 a;step b sub x a;", 4, 21);
        dueBehindHead("word x 1;step a move b 1 a;step b less a a;", 4, 21);
        dueBehindHead("word x 1;step a move b 1 a;step b halt;", 4, 21);
        dueBehindHead("word x 1;step a move a 1 a;", 4, 21);
        dueBehindHead("word x 1;step a move b 1 x;step b store x a;", 4, 25);
        // Any word may stand for a NAME in an OP: it is only not told.
        dueBehindHead("step a load at at at 0;", 4, 12);
        dueBehindHead("step a load at 5;", 1, 15);
        dueBehindHead("word x 1;step a load x longername;", 4, 23);
        dueBehindHead("word abcdef 1;step a load abcdefg a;", 4, 26);
        // 4 only if there is none else, wherever that is.
        dueBehindHead("step a load x a;step b jump;", 1, 23);
        dueBehindHead("step a load x a;step b less a y;", 4, 12);
    }

    private static void faultsOfMany() {
        dueBehindHead("word a 1;word b 1;word c 1;word d 1;", 0, 0);
        dueBehindHead("word a 1;word b 1;word c 1;word d 1;word a 1;", 3, 36);
        dueBehindHead("word a 1;word b 1;word c 1;word d 1;step", 3, 36);
        dueBehindHead("word a 1;word b 1;word c 1;word d 1;walk", 1, 36);
        String most = mostOfAll();
        dueFault(most, 0, -1);
        dueFault(most + "word z 1;", 3, most.length());
        dueFault(most + "step z halt;", 3, most.length());
        dueFault(most + " ?", 1, most.length() + 1);
        String roomy = "drum tracks 4 sectors 12 wait 0 quick 0 mul 0;";
        String words = "";
        String steps = "";
        for (char c = 'a'; c < 'i'; c++) {
            words += "word " + c + " 1;";
        }
        for (char c = 'i'; c < 'u'; c++) {
            steps += "step " + c + " halt;";
        }
        dueFault(roomy + words + "word z 1;", 3, roomy.length() + words.length());
        dueFault(roomy + steps + "step z halt;", 3, roomy.length() + steps.length());
        dueFault(roomy + steps + words, 0, -1);
        dueFault(roomy + words + steps + "word z 1;", 3, (roomy + words + steps).length());
    }

    private static void faults() {
        faultAnswers();
        faultsOfDrumLine();
        faultsOfWords();
        faultsOfSteps();
        faultsOfMany();
    }

    private static void count() {
        DrumPlacer x = of("drum tracks 3 sectors 6 wait 7 quick 2 mul 8;"
                + "word p 1;step a halt at 3;word q 2;step b less a a;step c add p a;");
        int[] want = {3, 6, 7, 2, 8, 2, 3, 4, 0, 6, 0};
        for (int what = 0; what < want.length; what++) {
            due("count " + what, x.count(what), want[what]);
        }
        due("others", x.count(11), -1);
        due("others", x.count(-1), -1);
        due("others", x.count(MIN), -1);
        due("others", x.count(MAX), -1);
        x.put(0, 5);
        feedOnce(x);
        due("acts", x.count(8), 1);
        due("bytes", x.count(10), 20);
    }

    private static void item() {
        String[] ops = {"load x z", "add x z", "sub x z", "mul x z", "store x z", "less z z",
            "move a 1 z"};
        StringBuilder text = new StringBuilder("drum tracks 1 sectors 12 wait 0 quick 0 mul 0;"
                + "word x 1;");
        for (int k = 0; k < ops.length; k++) {
            text.append("step ").append((char) ('a' + k)).append(' ').append(ops[k]).append(';');
        }
        DrumPlacer x = of(text + "step z halt at 11;");
        for (int k = 0; k < 8; k++) {
            due("its op", x.item(k + 1, 3), k);
            due("a step", x.item(k + 1, 0), 1);
        }
        due("a word", x.item(0, 0), 0);
        due("no op", x.item(0, 3), -1);
        due("address", x.item(7, 1), 7);
        due("fixed address", x.item(8, 1), 11);
        due("fixed", x.item(8, 2), 1);
        due("not fixed", x.item(7, 2), 0);
        x.swap(0, 7);
        due("address now", x.item(0, 1), 7);
        due("none such", x.item(9, 0), -2);
        due("none such", x.item(-1, 0), -2);
        due("none such", x.item(MAX, 0), -2);
        due("none such", x.item(MIN, 0), -2);
        due("none such", x.item(0, 4), -2);
        due("none such", x.item(0, -1), -2);
    }

    private static void at() {
        DrumPlacer x = of("drum tracks 2 sectors 3 wait 0 quick 0 mul 0;"
                + "word p 1 at 5;step a halt;word q 1;");
        due("at", x.at(5), 0);
        due("at", x.at(0), 1);
        due("at", x.at(1), 2);
        due("none", x.at(2), -1);
        due("no such", x.at(6), -2);
        due("no such", x.at(-1), -2);
        due("no such", x.at(MIN), -2);
        x.put(1, 3);
        due("where it was", x.at(0), -1);
        due("where it is", x.at(3), 1);
    }

    private static void steps() {
        due("steps", of(LOOP).steps(), 9);
        due("behind 100", of(HEAD + "step a less a a;").steps(), 100);
        due("a halt", of(HEAD + "step a halt;").steps(), 1);
        due("no step", of(NO_STEP).steps(), -2);
        due("no drum", new DrumPlacer().steps(), -2);
        due("moved ones as told each time", movingRun().steps(), 100);
    }

    private static DrumPlacer movingRun() {
        return of("drum tracks 1 sectors 8 wait 0 quick 0 mul 0;"
                + "word p 4;step a load p b;word q 6;word r 9;step b move a 7 a;");
    }

    private static void why() {
        due("a halt", of(LOOP).why(), 1);
        due("behind 100", of(HEAD + "step a less a a;").why(), 2);
        due("no step", of(NO_STEP).why(), -2);
        due("no drum", new DrumPlacer().why(), -2);
        String five = "drum tracks 1 sectors 6 wait 0 quick 0 mul 0;word n 1;word m -49;"
                + "step a load m b;step b add n c;step c less b d;step d halt;";
        due("the hundredth is a halt", of(five).steps(), 100);
        due("the hundredth is a halt", of(five).why(), 1);
        due("the hundred and first would be", of(five.replace("49", "50")).why(), 2);
        due("as many", of(five.replace("49", "50")).steps(), 100);
    }

    private static DrumPlacer computing(int start, String ops) {
        StringBuilder text = new StringBuilder("drum tracks 4 sectors 12 wait 0 quick 0 mul 0;"
                + "word x ").append(start < 0 ? "-" : "").append(Math.abs(start)).append(";"
                + "word y 7;word z -9999;step ia load x ib;");
        String[] all = ops.split(",");
        for (int k = 0; k < all.length; k++) {
            text.append("step i").append((char) ('b' + k)).append(' ').append(all[k])
                    .append(" i").append((char) ('c' + k)).append(';');
        }
        text.append("step i").append((char) ('b' + all.length)).append(" halt;");
        return of(text.toString());
    }

    private static void acc() {
        due("load", computing(-12, "load y").acc(), 7);
        due("add", computing(-12, "add y").acc(), -5);
        due("sub", computing(-12, "sub y").acc(), -19);
        due("mul", computing(-12, "mul y").acc(), -84);
        due("store", computing(-12, "store y").acc(), -12);
        due("above 9,999", computing(9993, "add y").acc(), -10000);
        due("not above", computing(9992, "add y").acc(), 9999);
        due("below -10,000", computing(-1, "add z,sub y").acc(), 9993);
        due("not below", computing(-1, "add z").acc(), -10000);
        due("again and again", computing(9999, "mul x").acc(), 1);
        due("again and again below", computing(9999, "mul z").acc(), -1);
        due("the most", computing(-1, "add z,store x,mul x").acc(), 0);
        due("less it", computing(-1, "add z,store x,sub x").acc(), 0);
        due("at first 0", of(HEAD + "step a halt;").acc(), 0);
        due("loop", of(LOOP).acc(), 0);
        due("no step", of(NO_STEP).acc(), -20000);
        due("no drum", new DrumPlacer().acc(), -20000);
    }

    private static void value() {
        DrumPlacer x = of(LOOP);
        due("stored", x.value(0), 0);
        due("as told", x.value(1), 1);
        due("a step", x.value(2), -20000);
        due("none", x.value(7), -20000);
        due("none", x.value(-1), -20000);
        due("none", x.value(MAX), -20000);
        due("less it", of(HEAD + "word x -7;step a halt;").value(0), -7);
        due("no step", of(NO_STEP).value(0), -20000);
        due("no drum", new DrumPlacer().value(0), -20000);
        due("wrapped", computing(9999, "add y,store x").value(0), -9994);
    }

    private static void done() {
        DrumPlacer x = of(LOOP);
        int[][] want = {{2, 0, 2, 10, -3}, {3, 1, 13, 21, -2}, {4, -1, 24, -1, -2},
            {3, 1, 33, 41, -1}, {4, -1, 44, -1, -1}, {3, 1, 53, 61, 0}, {4, -1, 64, -1, 0},
            {5, 0, 75, 80, 0}, {6, -1, 86, -1, 0}};
        for (int k = 0; k < want.length; k++) {
            for (int what = 0; what < 5; what++) {
                due("done " + k + " " + what, x.done(k, what), want[k][what]);
            }
        }
        due("not so many", x.done(9, 0), -20001);
        due("not so many", x.done(MAX, 4), -20001);
        due("below 0", x.done(-1, 0), -20002);
        due("below 0", x.done(MIN, 0), -20002);
        due("another what", x.done(0, 5), -20002);
        due("another what", x.done(0, -1), -20002);
        due("another what, not so many", x.done(9, 5), -20002);
        due("no step", of(NO_STEP).done(0, 0), -20002);
        due("no drum", new DrumPlacer().done(0, 0), -20002);
        DrumPlacer m = movingRun();
        // Seven further of three words is one further: p, q, r, p and so on.
        int[] operands = {0, 1, 2, 1, 3, 1, 0, 1};
        for (int k = 0; k < operands.length; k++) {
            due("moved operand", m.done(k, 1), k % 2 == 0 ? operands[k] : 1);
        }
        due("the last one", m.done(99, 1), 1);
    }

    private static void time() {
        due("loop", of(LOOP).time(), 87);
        due("small", of(SMALL).time(), 7);
        // a at 0; x can be read at 1, its sector 3 modulo 2; b from 2 on at 3.
        due("quick", of(QUICK).time(), 4);
        due("quick on the last track alone", of(QUICK.replace("at 7", "at 3")
                .replace("at 4", "at 0").replace("at 5", "at 1")).time(), 6);
        due("one track is the last", of("drum tracks 1 sectors 4 wait 0 quick 1 mul 0;"
                + "step a halt at 3;").time(), 1);
        due("a mul's operand last", of("drum tracks 1 sectors 2 wait 0 quick 1 mul 9;"
                + "word x 1;step a mul x a;").time(), 100 * 11);
        due("an add's operand last", of("drum tracks 1 sectors 2 wait 0 quick 1 mul 9;"
                + "word x 1;step a add x a;").time(), 100 * 2);
        due("no wait behind the last", of("drum tracks 1 sectors 2 wait 9 quick 1 mul 9;"
                + "step a less a a;").time(), 99 * 10 + 1);
        due("wait ahead of an operand", of("drum tracks 1 sectors 4 wait 3 quick 1 mul 9;"
                + "word x 1;step a load x b;step b halt;").time(), 6);
        due("no step", of(NO_STEP).time(), -2);
        due("no drum", new DrumPlacer().time(), -2);
    }

    private static void rounds() {
        due("cut", of(LOOP).rounds(), 8);
        due("small", of(SMALL).rounds(), 1);
        due("none", of(HEAD + "step a halt;").rounds(), 0);
        due("whole", of(HEAD + "step a halt at 3;").rounds(), 1);
        due("no step", of(NO_STEP).rounds(), -2);
        due("no drum", new DrumPlacer().rounds(), -2);
    }

    private static void lost() {
        due("loop", of(LOOP).lost(), 57);
        due("small", of(SMALL).lost(), 4);
        due("none", of(QUICK).lost(), 1);
        due("for the first", of(HEAD + "step a halt at 3;").lost(), 3);
        due("no step", of(NO_STEP).lost(), -2);
        due("no drum", new DrumPlacer().lost(), -2);
    }

    private static void lostFor() {
        DrumPlacer x = of(LOOP);
        int[] want = {7, 15, 2, 14, 6, 8, 5};
        for (int k = 0; k < want.length; k++) {
            due("lostFor " + k, x.lostFor(k), want[k]);
        }
        due("none such", x.lostFor(7), -2);
        due("none such", x.lostFor(-1), -2);
        due("none such", x.lostFor(MIN), -2);
        due("never read", of(HEAD + "word x 1;step a halt;").lostFor(0), 0);
        due("no step", of(NO_STEP).lostFor(0), -2);
        due("no drum", new DrumPlacer().lostFor(0), -2);
    }

    private static void worst() {
        due("loop", of(LOOP).worst(), 1);
        due("small", of(SMALL).worst(), 0);
        due("none was", of(HEAD + "step a halt at 0;").worst(), -1);
        due("one time alone", of(HEAD + "step a halt at 1;").worst(), 0);
        // a at 2, b at 5 from 3 on: two for each of them.
        due("the first of several", of("drum tracks 1 sectors 6 wait 0 quick 0 mul 0;"
                + "step b halt at 5;step a less b b at 2;").worst(), 0);
        due("the first of several", of("drum tracks 1 sectors 6 wait 0 quick 0 mul 0;"
                + "step a less b b at 2;step b halt at 5;").worst(), 0);
        due("no step", of(NO_STEP).worst(), -2);
        due("no drum", new DrumPlacer().worst(), -2);
    }

    private static void met() {
        DrumPlacer x = of(LOOP);
        int[] want = {2, 3, 1, 3, 3, 1, 1};
        for (int k = 0; k < want.length; k++) {
            due("met " + k, x.met(k), want[k]);
        }
        due("none such", x.met(7), -2);
        due("none such", x.met(-1), -2);
        due("never", of(HEAD + "word x 1;step a halt;").met(0), 0);
        DrumPlacer m = movingRun();
        due("as a step and as an operand", m.met(1), 100);
        due("as a step alone", m.met(4), 50);
        due("words in turn", m.met(0) * 10000 + m.met(2) * 100 + m.met(3), 171716);
        due("no step", of(NO_STEP).met(0), -2);
        due("no drum", new DrumPlacer().met(0), -2);
    }

    private static void bound() {
        due("loop", of(LOOP).bound(), 32);
        due("small", of(SMALL).bound(), 4);
        due("with mul", of("drum tracks 1 sectors 12 wait 2 quick 0 mul 5;word x 1 at 9;"
                + "step a mul x b at 1;step b halt at 4;").bound(), 1 + 1 + 2 + 1 + 5 + 1);
        // The first STEP is read again and again; only the first time is the wait for it left.
        String again = "drum tracks 1 sectors 5 wait 0 quick 0 mul 0;"
                + "step a less b b at 1;step b less a a at 3;";
        due("read again", of(again).time(), 249);
        due("read again", of(again).lost(), 149);
        due("read again", of(again).bound(), 101);
        due("no step", of(NO_STEP).bound(), -2);
        due("no drum", new DrumPlacer().bound(), -2);
    }

    private static void waiting() {
        DrumPlacer x = of(LOOP);
        due("as it is", x.waiting(2), 87);
        due("small", of(SMALL).waiting(0), 7);
        due("small", of(SMALL).waiting(1), 7);
        due("small", of(SMALL).waiting(2), 7);
        due("small", of(SMALL).waiting(3), 11);
        due("small", of(SMALL).waiting(9), 15);
        due("nothing happened", x.count(2), 2);
        due("nothing happened", x.time(), 87);
        due("none such", x.waiting(10), -2);
        due("none such", x.waiting(-1), -2);
        due("none such", x.waiting(MIN), -2);
        due("no step", of(NO_STEP).waiting(0), -2);
        due("no drum", new DrumPlacer().waiting(0), -2);
    }

    private static void quicker() {
        DrumPlacer x = of(QUICK);
        due("as it is", x.quicker(2), 4);
        due("every time", x.quicker(1), 3);
        // a at 0, x at 3, b from 4 on at 5.
        due("none", x.quicker(0), 6);
        due("nothing happened", x.time() * 10 + x.count(3), 42);
        due("not below S", x.quicker(4), -2);
        due("no divisor", x.quicker(3), -2);
        due("none such", x.quicker(-1), -2);
        due("none such", x.quicker(-2), -2);
        due("none such", x.quicker(MIN), -2);
        due("none such", x.quicker(MAX), -2);
        due("no step", of(NO_STEP).quicker(0), -2);
        due("no drum", new DrumPlacer().quicker(0), -2);
    }

    private static void moved() {
        DrumPlacer x = of("drum tracks 2 sectors 3 wait 0 quick 0 mul 0;"
                + "word p 1 at 0;step a halt;");
        due("as it is", x.time(), 2);
        due("to itself", x.moved(1, 1), 2);
        due("moved", x.moved(1, 2), 3);
        due("moved", x.moved(1, 3), 1);
        due("nothing happened", x.item(1, 1), 1);
        due("another is there", x.moved(1, 0), -5);
        due("it is fixed", x.moved(0, 2), -5);
        due("it is fixed, itself", x.moved(0, 0), -5);
        due("no address", x.moved(1, 6), -2);
        due("no address, fixed", x.moved(0, 6), -2);
        due("no address", x.moved(1, -1), -2);
        due("no item", x.moved(2, 0), -2);
        due("no item", x.moved(-1, 2), -2);
        due("no item", x.moved(MIN, MAX), -2);
        due("no step", of(NO_STEP).moved(0, 1), -2);
        due("no drum", new DrumPlacer().moved(0, 0), -2);
    }

    private static void swapped() {
        DrumPlacer x = of("drum tracks 2 sectors 3 wait 0 quick 0 mul 0;"
                + "word p 1 at 0;word q 1;step a halt;");
        due("as it is", x.time(), 3);
        due("swapped", x.swapped(1, 2), 2);
        due("swapped", x.swapped(2, 1), 2);
        due("nothing happened", x.item(1, 1), 1);
        due("one is fixed", x.swapped(0, 1), -5);
        due("one is fixed", x.swapped(1, 0), -5);
        due("both are one", x.swapped(1, 1), -2);
        due("both are one, fixed", x.swapped(0, 0), -2);
        due("none such", x.swapped(1, 3), -2);
        due("none such", x.swapped(3, 1), -2);
        due("none such, one fixed", x.swapped(0, 3), -2);
        due("none such", x.swapped(-1, 1), -2);
        due("none such", x.swapped(1, MIN), -2);
        due("no step", of(NO_STEP).swapped(0, 1), -2);
        due("no drum", new DrumPlacer().swapped(0, 1), -2);
    }

    private static void best() {
        DrumPlacer x = of("drum tracks 2 sectors 4 wait 0 quick 0 mul 0;word p 1 at 7;step a halt;");
        due("none saves any", x.best(), -1);
        x.put(1, 3);
        due("the first of several", x.best(), 100);
        DrumPlacer y = of("drum tracks 2 sectors 4 wait 0 quick 0 mul 0;"
                + "word p 1 at 0;step a halt;");
        due("saves", y.best(), 104);
        y.put(1, 3);
        due("saves most, not first", y.best(), 104);
        due("all fixed", of(HEAD + "step a less b b at 3;step b halt at 2;").best(), -1);
        // a at 1, b at 2: each of them moved alone can only come later.
        due("no item alone", of(HEAD + "word x 1 at 0;step a less b b;step b halt;").best(), -1);
        DrumPlacer z = of(HEAD + "step a less b b at 0;step b halt;");
        z.put(1, 3);
        due("the one that saves most", z.best(), 101);
        DrumPlacer v = of(HEAD + "step a halt;");
        v.put(0, 2);
        due("the first of items and addresses", v.best(), 0);
        due("nothing happened", z.item(1, 1), 3);
        due("small", of(SMALL).best(), -1);
        due("no step", of(NO_STEP).best(), -2);
        due("no drum", new DrumPlacer().best(), -2);
    }

    private static void pair() {
        due("small", of(SMALL).pair(), 1);
        due("two", of(HEAD + "word x 1;word y 1;step a halt;").pair(), 2);
        String four = "drum tracks 2 sectors 2 wait 0 quick 0 mul 0;"
                + "word x 1;word y 1;word z 1;step a halt;";
        due("the first of several", of(four).pair(), 3);
        due("none of them fixed", of(four.replace("x 1;", "x 1 at 0;")).pair(), 203);
        due("none saves any", of(HEAD + "step a halt;word x 1;").pair(), -1);
        due("one alone", of(HEAD + "step a halt at 3;").pair(), -1);
        due("no step", of(NO_STEP).pair(), -2);
        due("no drum", new DrumPlacer().pair(), -2);
    }

    private static void idle() {
        due("small", of(SMALL).idle(), 2);
        DrumPlacer x = of("drum tracks 2 sectors 4 wait 0 quick 0 mul 0;step a halt;");
        due("the same sector", x.idle(), 1);
        due("never read", of("drum tracks 2 sectors 4 wait 0 quick 0 mul 0;"
                + "step a halt at 0;word x 1;").idle(), 6);
        due("all fixed", of(HEAD + "step a halt at 0;").idle(), 0);
        DrumPlacer y = of("drum tracks 2 sectors 4 wait 0 quick 0 mul 0;step a halt;");
        y.put(0, 4);
        due("to the first address", y.idle(), 1);
        due("no step", of(NO_STEP).idle(), -2);
        due("no drum", new DrumPlacer().idle(), -2);
    }

    private static void lawful() {
        DrumPlacer x = of(SMALL);
        due("in order", x.lawful(0), 7);
        due("soonest", x.lawful(1), 3);
        due("best", x.lawful(2), 3);
        due("nothing happened", x.time(), 7);
        x.swap(0, 2);
        due("whatever was done", x.lawful(0), 7);
        due("none such", x.lawful(3), -2);
        due("none such", x.lawful(-1), -2);
        due("none such", x.lawful(MIN), -2);
        due("more than 4", of(FIVE_LOOSE).lawful(2), -3);
        due("more than 4, another law", of(FIVE_LOOSE).lawful(1), 3);
        due("4", of(FIVE_LOOSE.replace("r 1", "r 1 at 7")).lawful(2), 3);
        due("none is loose", of(QUICK).lawful(2), 4);
        due("no step", of(NO_STEP).lawful(0), -2);
        due("no drum", new DrumPlacer().lawful(0), -2);
    }

    private static void address() {
        DrumPlacer x = of("drum tracks 2 sectors 4 wait 1 quick 2 mul 2;word x -5 at 4;word y 7;"
                + "step a load x b at 0;step b mul y c;step c less d a;step d halt;");
        int[][] want = {{4, 1, 0, 2, 3, 5}, {4, 1, 0, 3, 6, 2}};
        for (int law = 0; law < 2; law++) {
            for (int k = 0; k < 6; k++) {
                due("address " + law + " " + k, x.address(law, k), want[law][k]);
            }
        }
        due("best", x.address(2, 1), 1);
        due("best", x.address(2, 3), 3);
        due("fixed", x.address(2, 0), 4);
        DrumPlacer y = of("drum tracks 2 sectors 2 wait 0 quick 0 mul 0;word x 1;step a halt;");
        due("soonest", y.address(1, 1), 0);
        due("never read, by law 0", y.address(1, 0), 1);
        due("first of the best", y.address(2, 0), 0);
        due("first of the best", y.address(2, 1), 2);
        due("no law", x.address(3, 0), -2);
        due("no law", x.address(-1, 0), -2);
        due("no item", x.address(0, 6), -2);
        due("no item", x.address(0, -1), -2);
        due("more than 4", of(FIVE_LOOSE).address(2, 0), -3);
        due("more than 4, no item", of(FIVE_LOOSE).address(2, 5), -2);
        due("more than 4, another law", of(FIVE_LOOSE).address(0, 4), 4);
        due("no step", of(NO_STEP).address(0, 0), -2);
        due("no drum", new DrumPlacer().address(0, 0), -2);
    }

    private static void ways() {
        due("one", of(SMALL).ways(), 1);
        due("words never read", of("drum tracks 2 sectors 2 wait 0 quick 0 mul 0;"
                + "word x 1;step a halt;").ways(), 6);
        due("quick at every time", of("drum tracks 1 sectors 12 wait 0 quick 1 mul 0;"
                + "word x 1;word y 1;step a add x b;step b halt;").ways(), 12 * 11 * 10 * 9);
        due("none is loose", of(QUICK).ways(), 1);
        due("the most", of("drum tracks 4 sectors 12 wait 0 quick 0 mul 0;"
                + "word x 1;word y 1;word z 1;word v 1;step a halt at 0;").ways(),
                47L * 46 * 45 * 44);
        due("more than 4", of(FIVE_LOOSE).ways(), -3);
        due("no step", of(NO_STEP).ways(), -2);
        due("no drum", new DrumPlacer().ways(), -2);
    }

    private static void dearest() {
        due("small", of(SMALL).dearest(), 10);
        due("one", of(HEAD + "step a halt;").dearest(), 4);
        due("none is loose", of(QUICK).dearest(), 4);
        due("more than 4", of(FIVE_LOOSE).dearest(), -3);
        due("no step", of(NO_STEP).dearest(), -2);
        due("no drum", new DrumPlacer().dearest(), -2);
    }

    private static void put() {
        DrumPlacer x = of("drum tracks 2 sectors 3 wait 0 quick 0 mul 0;"
                + "word p 1 at 0;step a halt;");
        due("put", x.put(1, 2), 3);
        due("it is there", x.item(1, 1), 2);
        due("time", x.time(), 3);
        due("to itself, an act too", x.put(1, 2), 3);
        due("acts", x.count(8), 2);
        due("another is there", x.put(1, 0), -5);
        due("fixed", x.put(0, 1), -5);
        due("no address", x.put(1, 6), -2);
        due("no item", x.put(2, 1), -2);
        due("no item", x.put(-1, MIN), -2);
        due("no act", x.count(8), 2);
        for (int k = 2; k < 20; k++) {
            due("put", x.put(1, 3 + k % 3), 1 + k % 3);
        }
        due("20 acts", x.count(8), 20);
        due("no more", x.put(1, 1), -5);
        due("none such first", x.put(1, 6), -2);
        due("it stays", x.item(1, 1), 4);
        due("no step", of(NO_STEP).put(0, 1), -2);
        due("no drum", new DrumPlacer().put(0, 0), -2);
    }

    private static void swap() {
        DrumPlacer x = of("drum tracks 2 sectors 3 wait 0 quick 0 mul 0;"
                + "word p 1 at 0;word q 1;step a halt;");
        due("swap", x.swap(1, 2), 2);
        due("they are there", x.item(1, 1) * 10 + x.item(2, 1), 21);
        due("fixed", x.swap(0, 1), -5);
        due("both are one", x.swap(2, 2), -2);
        due("none such", x.swap(1, 3), -2);
        due("none such", x.swap(MAX, 1), -2);
        due("acts", x.count(8), 1);
        for (int k = 1; k < 20; k++) {
            due("swap", x.swap(2, 1), k % 2 == 1 ? 3 : 2);
        }
        due("no more", x.swap(1, 2), -5);
        due("none such first", x.swap(1, 1), -2);
        due("no step", of(NO_STEP).swap(0, 1), -2);
        due("no drum", new DrumPlacer().swap(0, 1), -2);
    }

    private static void lays() {
        DrumPlacer x = of(SMALL);
        due("soonest", x.lays(1), 3);
        due("laid", x.item(0, 1) * 100 + x.item(1, 1) * 10 + x.item(2, 1), 102);
        due("in order", x.lays(0), 7);
        due("best", x.lays(2), 3);
        due("acts", x.count(8), 3);
        due("time", x.time(), 3);
        due("none such", x.lays(3), -2);
        due("none such", x.lays(-1), -2);
        due("no step", of(NO_STEP).lays(0), -2);
        due("no drum", new DrumPlacer().lays(0), -2);
        DrumPlacer y = of(FIVE_LOOSE);
        due("more than 4", y.lays(2), -3);
        due("no act", y.count(8), 0);
        for (int k = 0; k < 20; k++) {
            due("lays", y.lays(k % 2), k % 2 == 0 ? y.lawful(0) : y.lawful(1));
        }
        due("no more", y.lays(0), -5);
        due("no more ahead of more than 4", y.lays(2), -5);
        due("none such first", y.lays(3), -2);
        due("acts", y.count(8), 20);
    }

    private static void undo() {
        DrumPlacer x = of(SMALL);
        due("there is none", x.undo(), -5);
        x.put(2, 3);
        x.swap(0, 1);
        x.lays(2);
        due("undo lays", x.undo(), 2);
        due("as it was", x.item(0, 1) * 100 + x.item(1, 1) * 10 + x.item(2, 1), 103);
        due("undo swap", x.undo(), 1);
        due("as it was", x.item(0, 1) * 100 + x.item(1, 1) * 10 + x.item(2, 1), 13);
        due("undo put", x.undo(), 0);
        due("as it was", x.time(), 7);
        due("there is none", x.undo(), -5);
        for (int k = 0; k < 20; k++) {
            x.lays(k % 2);
        }
        due("undo of 20", x.undo(), 19);
        due("room again", x.lays(1), 3);
        due("full again", x.lays(1), -5);
        due("no step", of(NO_STEP).undo(), -5);
        due("no drum", new DrumPlacer().undo(), -2);
        Texts.tell(x, "");
        due("no drum any more", x.undo(), -2);
    }

    private static void anew() {
        DrumPlacer x = of(SMALL);
        due("there were none", x.anew(), 0);
        x.put(2, 3);
        x.swap(0, 1);
        x.lays(1);
        due("all", x.anew(), 3);
        due("as it was", x.item(0, 1) * 100 + x.item(1, 1) * 10 + x.item(2, 1), 12);
        due("acts", x.count(8), 0);
        due("time", x.time(), 7);
        due("there is none", x.undo(), -5);
        due("no step", of(NO_STEP).anew(), 0);
        due("no drum", new DrumPlacer().anew(), -2);
    }

    private static void test(int number) {
        promise = number;
        switch (number) {
            case 1 -> newObject();
            case 2 -> feed();
            case 3 -> end();
            case 4 -> drum();
            case 5 -> faults();
            case 6 -> count();
            case 7 -> item();
            case 8 -> at();
            case 9 -> steps();
            case 10 -> why();
            case 11 -> acc();
            case 12 -> value();
            case 13 -> done();
            case 14 -> time();
            case 15 -> rounds();
            case 16 -> lost();
            case 17 -> lostFor();
            case 18 -> worst();
            case 19 -> met();
            case 20 -> bound();
            case 21 -> waiting();
            case 22 -> quicker();
            case 23 -> moved();
            case 24 -> swapped();
            case 25 -> best();
            case 26 -> pair();
            case 27 -> idle();
            case 28 -> lawful();
            case 29 -> address();
            case 30 -> ways();
            case 31 -> dearest();
            case 32 -> put();
            case 33 -> swap();
            case 34 -> lays();
            case 35 -> undo();
            default -> anew();
        }
    }

    public static void main(String[] args) {
        for (int number = 1; number <= 36; number++) {
            test(number);
        }
        System.out.println(Arrays.stream(asked).sum() + " questions on 36 promises");
        System.out.println(wrong == 0 ? "all answers are as due" : wrong + " answers are not as due");
        if (wrong != 0) {
            System.exit(1);
        }
    }
}
