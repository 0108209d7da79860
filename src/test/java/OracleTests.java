import java.util.List;
import java.util.Random;

/** Holds the program against Oracle, over texts and calls from a fixed seed. */
public final class OracleTests {
    private static final int SESSIONS = 400;
    private static final int SEARCHES = 700;
    private static final int MOST_LAYINGS = 1500;

    private static int wrong = 0;
    private static long calls = 0;
    private static final int[] faults = new int[5];
    private static String text = "";

    private final Random random;
    private final Texts texts;
    private DrumPlacer x = new DrumPlacer();
    private Oracle y = new Oracle();

    private OracleTests(long seed) {
        random = new Random(seed);
        texts = new Texts(random);
    }

    private static void same(String call, long got, long want) {
        calls++;
        if (got != want) {
            wrong++;
            if (wrong < 20) {
                System.out.println(call + " answered " + got + ", due is " + want + " for\n" + text);
            }
        }
    }

    private int pick(int below) {
        return random.nextInt(below);
    }

    private int odd(int below) {
        int[] edges = {-1, -2, below, below + 1, Integer.MIN_VALUE, Integer.MAX_VALUE, 20, 48, 100};
        return pick(12) == 0 ? edges[pick(edges.length)] : pick(Math.max(1, below));
    }

    private void tell(String newText) {
        text = newText;
        byte[] b = Texts.bytes(newText);
        x.end(0);
        y.end(0);
        for (int k = 0; k < b.length; k += 20) {
            int[] v = new int[5];
            for (int m = 0; m < 5; m++) {
                v[m] = Texts.fourBytes(b, k + 4 * m);
            }
            same("feed", x.feed(v[0], v[1], v[2], v[3], v[4]), y.feed(v[0], v[1], v[2], v[3], v[4]));
        }
        same("end", x.end(b.length), y.end(b.length));
        same("count(10)", x.count(10), y.count(10));
        same("drum", x.drum(), y.drum());
        same("fault(0)", x.fault(0), y.fault(0));
        same("fault(1)", x.fault(1), y.fault(1));
        faults[y.fault(0)]++;
    }

    private long layings() {
        int free = y.told.addresses() - (y.told.items.size() - y.told.loose().size());
        long layings = 1;
        for (int k = 0; k < y.told.loose().size(); k++) {
            layings *= free - k;
        }
        return layings;
    }

    private void lookAtAll() {
        for (int k = -1; k < 12; k++) {
            same("count " + k, x.count(k), y.count(k));
        }
        for (int k = -1; k <= y.told.items.size(); k++) {
            for (int w = -1; w < 5; w++) {
                same("item " + k + " " + w, x.item(k, w), y.item(k, w));
            }
            same("value " + k, x.value(k), y.value(k));
            same("lostFor " + k, x.lostFor(k), y.lostFor(k));
            same("met " + k, x.met(k), y.met(k));
        }
        for (int a = -1; a <= y.told.addresses(); a++) {
            same("at " + a, x.at(a), y.at(a));
        }
        same("steps", x.steps(), y.steps());
        same("why", x.why(), y.why());
        same("acc", x.acc(), y.acc());
        same("time", x.time(), y.time());
        same("rounds", x.rounds(), y.rounds());
        same("lost", x.lost(), y.lost());
        same("worst", x.worst(), y.worst());
        same("bound", x.bound(), y.bound());
    }

    private void lookAtRun() {
        for (int k = -1; k <= 101; k++) {
            for (int w = -1; w < 6; w++) {
                same("done " + k + " " + w, x.done(k, w), y.done(k, w));
            }
        }
    }

    private void askOther() {
        for (int k = -1; k < 13; k++) {
            same("waiting " + k, x.waiting(k), y.waiting(k));
            same("quicker " + k, x.quicker(k), y.quicker(k));
        }
        same("best", x.best(), y.best());
        same("pair", x.pair(), y.pair());
        same("idle", x.idle(), y.idle());
        int items = y.told.items.size();
        for (int law = -1; law < (y.told.loose().size() > 4 ? 4 : 2); law++) {
            same("lawful " + law, x.lawful(law), y.lawful(law));
            for (int k = -1; k <= items; k++) {
                same("address " + law + " " + k, x.address(law, k), y.address(law, k));
            }
        }
        for (int k = 0; k < 20; k++) {
            int item = odd(items);
            int other = odd(items);
            int address = odd(y.told.addresses());
            same("moved " + item + " " + address, x.moved(item, address), y.moved(item, address));
            same("swapped " + item + " " + other, x.swapped(item, other), y.swapped(item, other));
        }
    }

    private void act() {
        int items = y.told.items.size();
        int item = odd(items);
        int other = odd(items);
        int address = odd(y.told.addresses());
        int law = layings() <= MOST_LAYINGS / 10 || y.told.loose().size() > 4 ? odd(3) : odd(2);
        switch (pick(20)) {
            case 0 -> same("anew", x.anew(), y.anew());
            case 1, 2, 3 -> same("undo", x.undo(), y.undo());
            case 4, 5, 6 -> {
                if (law != 2 || layings() <= MOST_LAYINGS / 10 || y.told.loose().size() > 4) {
                    same("lays " + law, x.lays(law), y.lays(law));
                }
            }
            case 7, 8, 9, 10, 11 -> same("swap " + item + " " + other,
                    x.swap(item, other), y.swap(item, other));
            default -> same("put " + item + " " + address,
                    x.put(item, address), y.put(item, address));
        }
        same("count(8)", x.count(8), y.count(8));
        same("time", x.time(), y.time());
    }

    private void session() {
        x = new DrumPlacer();
        y = new Oracle();
        for (int k = 0; k < 4; k++) {
            List<String> tokens = texts.tokens(48, pick(2) == 0 ? 4 : 20);
            if (pick(2) == 0) {
                texts.spoil(tokens);
            }
            tell(texts.join(tokens));
            if (pick(30) == 0) {
                tell("");
            }
            lookAtAll();
            for (int n = pick(40); n > 0; n--) {
                act();
            }
            lookAtAll();
            askOther();
            if (pick(8) == 0) {
                lookAtRun();
            }
        }
    }

    private void parseOnly() {
        for (int k = 0; k < 50; k++) {
            List<String> tokens = texts.tokens(48, pick(20));
            texts.spoil(tokens);
            tell(texts.join(tokens));
            same("count(9)", x.count(9), y.count(9));
        }
    }

    private void searchAll(int mostAddresses, long mostLayings) {
        do {
            tell(texts.join(texts.tokens(mostAddresses, pick(5))));
        } while (y.fault(0) != 0 || y.noStep() || y.told.loose().size() > 4 || layings() > mostLayings
                || layings() < mostLayings / 50);
        Oracle.All all = y.all();
        same("lawful 2", x.lawful(2), all.least);
        same("ways", x.ways(), all.ways);
        same("dearest", x.dearest(), all.most);
        for (int k = 0; k < y.told.items.size(); k++) {
            same("address 2 " + k, x.address(2, k), all.first[k]);
        }
        same("lays 2", x.lays(2), all.least);
        same("lost", x.time() - x.lost() + x.done(0, 2), x.bound());
        same("undo", x.undo(), 0);
        same("time", x.time(), y.time());
    }

    public static void main(String[] args) {
        long seed = args.length > 0 ? Long.parseLong(args[0]) : 17;
        OracleTests tests = new OracleTests(seed);
        for (int k = 0; k < SESSIONS; k++) {
            tests.session();
            tests.parseOnly();
        }
        for (int k = 0; k < SEARCHES; k++) {
            tests.searchAll(k % 2 == 0 ? 12 : 48, MOST_LAYINGS);
        }
        for (int k = 0; k < 4; k++) {
            tests.searchAll(48, 60000);
        }
        System.out.println(calls + " calls, texts by fault: " + java.util.Arrays.toString(faults));
        System.out.println(wrong == 0 ? "all answers are as due" : wrong + " answers are not as due");
        if (wrong != 0) {
            System.exit(1);
        }
    }
}
