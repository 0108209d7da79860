import java.util.ArrayDeque;
import java.util.ArrayList;
import java.util.Arrays;
import java.util.Deque;
import java.util.HashMap;
import java.util.List;
import java.util.Map;
import java.util.Set;

/**
 * The document once more, in the plainest way that can be: it counts every word time, lays every
 * laying, and keeps nothing from one call to the next. OracleTests holds the program against it.
 */
final class Oracle {
    static final List<String> OPS =
            List.of("load", "add", "sub", "mul", "store", "less", "move", "halt");
    static final Set<String> RESERVED = Set.of("drum", "word", "step", "at", "halt", "load", "add",
            "sub", "mul", "store", "less", "move");

    static final class Fault extends RuntimeException {
        final int kind;
        final int place;

        Fault(int kind, int place) {
            this.kind = kind;
            this.place = place;
        }
    }

    record Token(char kind, String text, int place) {
        int number() {
            return text.length() > 9 ? bigNumber() : Integer.parseInt(text);
        }

        private int bigNumber() {
            java.math.BigInteger big = new java.math.BigInteger(text);
            return big.bitLength() > 30 ? Integer.MAX_VALUE : big.intValue();
        }
    }

    static final class Item {
        String name;
        int op = -1;
        int start;
        int fixed = -1;
        Token first;
        Token last;
        int further;
    }

    static final class Told {
        int tracks;
        int sectors;
        int wait;
        int quick;
        int mul;
        int lines;
        final List<Item> items = new ArrayList<>();

        int addresses() {
            return tracks * sectors;
        }

        int find(String name) {
            for (int k = 0; k < items.size(); k++) {
                if (items.get(k).name.equals(name)) {
                    return k;
                }
            }
            return -1;
        }

        long steps() {
            return items.stream().filter(i -> i.op >= 0).count();
        }

        long words() {
            return items.stream().filter(i -> i.op < 0).count();
        }

        List<Integer> loose() {
            List<Integer> loose = new ArrayList<>();
            for (int k = 0; k < items.size(); k++) {
                if (items.get(k).fixed < 0) {
                    loose.add(k);
                }
            }
            return loose;
        }
    }

    // ---- the text

    static final class Parser {
        final List<Token> tokens = new ArrayList<>();
        int next = 0;
        final Told told = new Told();

        Parser(byte[] text) {
            int k = 0;
            while (k < text.length) {
                int c = text[k] & 255;
                int begin = k;
                if (c == 32 || c == 10) {
                    k++;
                    continue;
                }
                char kind = kindOf(c);
                k++;
                while ((kind == 'w' || kind == 'n') && k < text.length
                        && kindOf(text[k] & 255) == kind) {
                    k++;
                }
                tokens.add(new Token(kind, new String(text, begin, k - begin,
                        java.nio.charset.StandardCharsets.ISO_8859_1), begin));
            }
            tokens.add(new Token('e', "", text.length));
        }

        static char kindOf(int c) {
            if (c >= 'a' && c <= 'z') {
                return 'w';
            }
            if (c >= '0' && c <= '9') {
                return 'n';
            }
            return c == ';' || c == '-' ? (char) c : '?';
        }

        Token peek() {
            return tokens.get(next);
        }

        Token take(char kind) {
            Token t = peek();
            if (t.kind() != kind) {
                throw new Fault(1, t.place());
            }
            next++;
            return t;
        }

        void keyword(String word) {
            Token t = take('w');
            if (!t.text().equals(word)) {
                throw new Fault(1, t.place());
            }
        }

        int number(int low, int high) {
            Token t = take('n');
            if (t.number() < low || t.number() > high) {
                throw new Fault(2, t.place());
            }
            return t.number();
        }

        Told parse() {
            while (peek().kind() != 'e') {
                line();
                take(';');
                told.lines++;
            }
            for (Item item : told.items) {
                if (item.op >= 0 && item.op != 7) {
                    check(item);
                }
            }
            return told;
        }

        void line() {
            if (told.lines == 0) {
                drumLine();
                return;
            }
            Token head = take('w');
            if (!head.text().equals("word") && !head.text().equals("step")) {
                throw new Fault(1, head.place());
            }
            boolean word = head.text().equals("word");
            boolean many = word ? told.words() == 8 : told.steps() == 12;
            if (many || told.items.size() == told.addresses()) {
                throw new Fault(3, head.place());
            }
            Item item = new Item();
            Token name = take('w');
            if (name.text().length() > 6 || RESERVED.contains(name.text())
                    || told.find(name.text()) >= 0) {
                throw new Fault(2, name.place());
            }
            item.name = name.text();
            if (word) {
                wordRest(item);
            } else {
                stepRest(item);
            }
            if (peek().text().equals("at")) {
                next++;
                Token address = take('n');
                boolean twice = told.items.stream().anyMatch(i -> i.fixed == address.number());
                if (address.number() >= told.addresses() || twice) {
                    throw new Fault(2, address.place());
                }
                item.fixed = address.number();
            }
            told.items.add(item);
        }

        void drumLine() {
            keyword("drum");
            keyword("tracks");
            told.tracks = number(1, 4);
            keyword("sectors");
            told.sectors = number(2, 12);
            keyword("wait");
            told.wait = number(0, 9);
            keyword("quick");
            Token q = take('n');
            if (!mayBeQuick(q.number(), told.sectors)) {
                throw new Fault(2, q.place());
            }
            told.quick = q.number();
            keyword("mul");
            told.mul = number(0, 9);
        }

        void wordRest(Item item) {
            int sign = 1;
            if (peek().kind() == '-') {
                next++;
                sign = -1;
            }
            item.start = sign * number(0, 9999);
        }

        void stepRest(Item item) {
            Token op = take('w');
            item.op = OPS.indexOf(op.text());
            if (item.op < 0) {
                throw new Fault(1, op.place());
            }
            if (item.op == 7) {
                return;
            }
            item.first = take('w');
            if (item.op == 6) {
                item.further = number(1, 7);
            }
            item.last = take('w');
        }

        void check(Item item) {
            int first = told.find(item.first.text());
            int last = told.find(item.last.text());
            int op = first < 0 ? -2 : told.items.get(first).op;
            boolean good = item.op < 5 ? op == -1 : item.op == 5 ? op >= 0 : op >= 0 && op < 5;
            if (!good) {
                throw new Fault(4, item.first.place());
            }
            if (last < 0 || told.items.get(last).op < 0) {
                throw new Fault(4, item.last.place());
            }
        }
    }

    static boolean mayBeQuick(int q, int sectors) {
        for (int k = 1; k < sectors; k++) {
            if (k == q && sectors % k == 0) {
                return true;
            }
        }
        return q == 0;
    }

    // ---- the run

    record Done(int item, int operand, int when, int operandWhen, int acc) { }

    static final class Run {
        final List<Done> done = new ArrayList<>();
        int why = 2;
        int acc;
        int time;
        int firstLost;
        final Map<Integer, Integer> values = new HashMap<>();
        int[] lost;
        int[] met;
        int[] laying;
    }

    boolean readable(int t, int address, int quick) {
        int sector = address % told.sectors;
        boolean last = address / told.sectors == told.tracks - 1;
        int turn = last && quick > 0 ? quick : told.sectors;
        return t % turn == sector % turn;
    }

    /** Runs with ITEMS at their places; one that has none (-1) is laid soonest when it is read. */
    Run run(int[] places, int wait, int quick) {
        Run r = new Run();
        int n = told.items.size();
        r.laying = places.clone();
        r.lost = new int[n];
        r.met = new int[n];
        List<Integer> words = new ArrayList<>();
        Map<Integer, Integer> operand = new HashMap<>();
        for (int k = 0; k < n; k++) {
            Item item = told.items.get(k);
            if (item.op < 0) {
                words.add(k);
                r.values.put(k, item.start);
            } else if (item.op < 7 && item.op != 5) {
                operand.put(k, told.find(item.first.text()));
            }
        }
        int step = 0;
        while (told.items.get(step).op < 0) {
            step++;
        }
        int from = 0;
        while (r.done.size() < 100) {
            Item it = told.items.get(step);
            int t = read(r, step, from, quick);
            if (r.done.isEmpty()) {
                r.firstLost = t;
            }
            r.time = t + 1;
            from = t + 1 + wait;
            int other = operand.getOrDefault(step, -1);
            int operandWhen = -1;
            if (other >= 0) {
                operandWhen = read(r, other, from, quick);
                r.time = operandWhen + 1 + (it.op == 3 ? told.mul : 0);
                from = r.time;
            }
            switch (it.op) {
                case 0 -> r.acc = r.values.get(other);
                case 1 -> r.acc = wrap(r.acc + r.values.get(other));
                case 2 -> r.acc = wrap(r.acc - r.values.get(other));
                case 3 -> r.acc = wrap(r.acc * r.values.get(other));
                case 4 -> r.values.put(other, r.acc);
                case 6 -> operand.put(other, words.get(
                        (words.indexOf(operand.get(other)) + it.further) % words.size()));
                default -> { }
            }
            r.done.add(new Done(step, other, t, operandWhen, r.acc));
            if (it.op == 7) {
                r.why = 1;
                break;
            }
            boolean jump = it.op == 5 && r.acc < 0;
            step = told.find((jump ? it.first : it.last).text());
        }
        return r;
    }

    static int wrap(int v) {
        while (v > 9999) {
            v -= 20000;
        }
        while (v < -10000) {
            v += 20000;
        }
        return v;
    }

    int read(Run r, int item, int from, int quick) {
        int t = from;
        if (r.laying[item] < 0) {
            while (r.laying[item] < 0) {
                for (int a = 0; a < told.addresses(); a++) {
                    if (isFree(r.laying, a) && readable(t, a, quick)) {
                        r.laying[item] = a;
                        break;
                    }
                }
                t++;
            }
            t--;
        }
        while (!readable(t, r.laying[item], quick)) {
            t++;
        }
        r.met[item]++;
        r.lost[item] += t - from;
        return t;
    }

    static boolean isFree(int[] laying, int address) {
        return Arrays.stream(laying).noneMatch(a -> a == address);
    }

    // ---- laying

    int[] fixedOnly() {
        return told.items.stream().mapToInt(i -> i.fixed).toArray();
    }

    int[] layRest(int[] places) {
        int[] laying = places.clone();
        for (int k = 0; k < laying.length; k++) {
            for (int a = 0; laying[k] < 0; a++) {
                if (isFree(laying, a)) {
                    laying[k] = a;
                }
            }
        }
        return laying;
    }

    int[] byLaw(int law) {
        if (law == 0) {
            return layRest(fixedOnly());
        }
        if (law == 1) {
            return layRest(run(fixedOnly(), told.wait, told.quick).laying);
        }
        return all().first;
    }

    static final class All {
        int least = Integer.MAX_VALUE;
        int most;
        long ways;
        int[] first;
    }

    All all() {
        All all = new All();
        tryAll(all, fixedOnly(), told.loose(), 0);
        return all;
    }

    void tryAll(All all, int[] laying, List<Integer> loose, int depth) {
        if (depth == loose.size()) {
            int time = run(laying, told.wait, told.quick).time;
            all.most = Math.max(all.most, time);
            if (time < all.least) {
                all.least = time;
                all.ways = 0;
                all.first = laying.clone();
            }
            if (time == all.least) {
                all.ways++;
            }
            return;
        }
        for (int a = 0; a < told.addresses(); a++) {
            if (isFree(laying, a)) {
                laying[loose.get(depth)] = a;
                tryAll(all, laying, loose, depth + 1);
                laying[loose.get(depth)] = -1;
            }
        }
    }

    // ---- the face

    byte[] tape = new byte[0];
    Told told = new Told();
    int[] laying = new int[0];
    final Deque<int[]> acts = new ArrayDeque<>();
    int fault = 0;
    int faultPlace = -1;

    boolean noStep() {
        return told.steps() == 0;
    }

    boolean isItem(int item) {
        return item >= 0 && item < told.items.size();
    }

    boolean isAddress(int a) {
        return a >= 0 && a < told.addresses();
    }

    Run now() {
        return run(laying, told.wait, told.quick);
    }

    int feed(int a, int b, int c, int d, int e) {
        if (tape.length + 20 > 700) {
            return -1;
        }
        java.nio.ByteBuffer more = java.nio.ByteBuffer.allocate(tape.length + 20);
        more.put(tape).putInt(a).putInt(b).putInt(c).putInt(d).putInt(e);
        tape = more.array();
        return tape.length;
    }

    int end(int n) {
        if (n < 0 || n > tape.length) {
            return -1;
        }
        tape = Arrays.copyOf(tape, n);
        return n;
    }

    int drum() {
        byte[] text = tape;
        tape = new byte[0];
        try {
            told = new Parser(text).parse();
        } catch (Fault f) {
            fault = f.kind;
            faultPlace = f.place;
            return -4;
        }
        fault = 0;
        faultPlace = -1;
        acts.clear();
        laying = layRest(fixedOnly());
        return told.lines;
    }

    int fault(int what) {
        return what == 0 ? fault : what == 1 ? faultPlace : -1;
    }

    int count(int what) {
        int[] all = {told.tracks, told.sectors, told.wait, told.quick, told.mul,
            (int) told.words(), (int) told.steps(), told.loose().size(), acts.size(), told.lines,
            tape.length};
        return what >= 0 && what < all.length ? all[what] : -1;
    }

    int item(int item, int what) {
        if (!isItem(item) || what < 0 || what > 3) {
            return -2;
        }
        Item it = told.items.get(item);
        return new int[] {it.op >= 0 ? 1 : 0, laying[item], it.fixed >= 0 ? 1 : 0, it.op}[what];
    }

    int at(int address) {
        if (!isAddress(address)) {
            return -2;
        }
        for (int k = 0; k < laying.length; k++) {
            if (laying[k] == address) {
                return k;
            }
        }
        return -1;
    }

    int steps() {
        return noStep() ? -2 : now().done.size();
    }

    int why() {
        return noStep() ? -2 : now().why;
    }

    int acc() {
        return noStep() ? -20000 : now().acc;
    }

    int value(int item) {
        return noStep() ? -20000 : now().values.getOrDefault(item, -20000);
    }

    int done(int k, int what) {
        if (noStep() || k < 0 || what < 0 || what > 4) {
            return -20002;
        }
        Run r = now();
        if (k >= r.done.size()) {
            return -20001;
        }
        Done d = r.done.get(k);
        return new int[] {d.item, d.operand, d.when, d.operandWhen, d.acc}[what];
    }

    int time() {
        return noStep() ? -2 : now().time;
    }

    int rounds() {
        return noStep() ? -2 : now().time / told.sectors;
    }

    int lost() {
        return noStep() ? -2 : Arrays.stream(now().lost).sum();
    }

    int lostFor(int item) {
        return noStep() || !isItem(item) ? -2 : now().lost[item];
    }

    int worst() {
        if (noStep()) {
            return -2;
        }
        int[] lost = now().lost;
        int most = Arrays.stream(lost).max().getAsInt();
        for (int k = 0; k < lost.length; k++) {
            if (most > 0 && lost[k] == most) {
                return k;
            }
        }
        return -1;
    }

    int met(int item) {
        return noStep() || !isItem(item) ? -2 : now().met[item];
    }

    int bound() {
        return noStep() ? -2 : time() - lost() + now().firstLost;
    }

    int waiting(int w) {
        return noStep() || w < 0 || w > 9 ? -2 : run(laying, w, told.quick).time;
    }

    int quicker(int q) {
        return noStep() || !mayBeQuick(q, told.sectors) ? -2 : run(laying, told.wait, q).time;
    }

    int moved(int item, int address) {
        if (noStep() || !isItem(item) || !isAddress(address)) {
            return -2;
        }
        if (told.items.get(item).fixed >= 0 || at(address) >= 0 && at(address) != item) {
            return -5;
        }
        int[] other = laying.clone();
        other[item] = address;
        return run(other, told.wait, told.quick).time;
    }

    int swapped(int item, int other) {
        if (noStep() || !isItem(item) || !isItem(other) || item == other) {
            return -2;
        }
        if (told.items.get(item).fixed >= 0 || told.items.get(other).fixed >= 0) {
            return -5;
        }
        int[] changed = laying.clone();
        changed[item] = laying[other];
        changed[other] = laying[item];
        return run(changed, told.wait, told.quick).time;
    }

    int best() {
        if (noStep()) {
            return -2;
        }
        int now = time();
        int saves = 0;
        int best = -1;
        for (int k = 0; k < laying.length; k++) {
            for (int a = 0; a < told.addresses(); a++) {
                int t = moved(k, a);
                if (t >= 0 && now - t > saves) {
                    saves = now - t;
                    best = 100 * k + a;
                }
            }
        }
        return best;
    }

    int pair() {
        if (noStep()) {
            return -2;
        }
        int now = time();
        int saves = 0;
        int best = -1;
        for (int k = 0; k < laying.length; k++) {
            for (int o = k + 1; o < laying.length; o++) {
                int t = swapped(k, o);
                if (t >= 0 && now - t > saves) {
                    saves = now - t;
                    best = 100 * k + o;
                }
            }
        }
        return best;
    }

    int idle() {
        if (noStep()) {
            return -2;
        }
        int now = time();
        int idle = 0;
        for (int k = 0; k < laying.length; k++) {
            for (int a = 0; a < told.addresses(); a++) {
                if (a != laying[k] && moved(k, a) == now) {
                    idle++;
                }
            }
        }
        return idle;
    }

    int lawRefusal(int law) {
        return noStep() || law < 0 || law > 2 ? -2 : law == 2 && told.loose().size() > 4 ? -3 : 0;
    }

    int lawful(int law) {
        int refusal = lawRefusal(law);
        return refusal != 0 ? refusal : run(byLaw(law), told.wait, told.quick).time;
    }

    int address(int law, int item) {
        int refusal = isItem(item) ? lawRefusal(law) : -2;
        return refusal != 0 ? refusal : byLaw(law)[item];
    }

    long ways() {
        return lawRefusal(2) != 0 ? lawRefusal(2) : all().ways;
    }

    int dearest() {
        return lawRefusal(2) != 0 ? lawRefusal(2) : all().most;
    }

    int put(int item, int address) {
        int time = moved(item, address);
        if (time < 0) {
            return time;
        }
        if (acts.size() == 20) {
            return -5;
        }
        acts.push(laying.clone());
        laying[item] = address;
        return time;
    }

    int swap(int item, int other) {
        int time = swapped(item, other);
        if (time < 0) {
            return time;
        }
        if (acts.size() == 20) {
            return -5;
        }
        acts.push(laying.clone());
        int address = laying[item];
        laying[item] = laying[other];
        laying[other] = address;
        return time;
    }

    int lays(int law) {
        if (lawRefusal(law) == -2) {
            return -2;
        }
        if (acts.size() == 20) {
            return -5;
        }
        if (lawRefusal(law) != 0) {
            return -3;
        }
        acts.push(laying.clone());
        laying = byLaw(law);
        return time();
    }

    int undo() {
        if (told.lines == 0) {
            return -2;
        }
        if (acts.isEmpty()) {
            return -5;
        }
        laying = acts.pop();
        return acts.size();
    }

    int anew() {
        if (told.lines == 0) {
            return -2;
        }
        int were = acts.size();
        if (were > 0) {
            laying = acts.peekLast();
        }
        acts.clear();
        return were;
    }
}
