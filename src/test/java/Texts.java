import java.nio.charset.StandardCharsets;
import java.util.ArrayList;
import java.util.Collections;
import java.util.List;
import java.util.Random;

/** Makes texts, and tells them to a program. */
final class Texts {
    private static final String[] NAMES = {"a", "b", "c", "d", "e", "f", "g", "h", "i", "j", "k",
        "l", "m", "n", "o", "p", "q", "r", "abcdef", "zzzzzz", "zzzzz", "aa", "halts", "dru",
        "ats", "tracks", "wait", "quick"};
    private static final String[] STRAY = {";", "-", "?", "A", "at", "word", "step", "drum",
        "halt", "load", "move", "less", "mul", "0", "1", "7", "8", "12", "13", "47", "48", "0003",
        "9999", "10000", "4294967297", "99999999999999999999", "zzzzzz", "zzzzzzz", "a", "q",
        "nobody", "sectors", ".", "\t", "\u00e9", "\u0000"};

    private final Random random;

    Texts(Random random) {
        this.random = random;
    }

    static byte[] bytes(String text) {
        return text.getBytes(StandardCharsets.ISO_8859_1);
    }

    static int fourBytes(byte[] bytes, int at) {
        int number = 0;
        for (int k = at; k < at + 4; k++) {
            number = number << 8 | (k < bytes.length ? bytes[k] & 255 : 0);
        }
        return number;
    }

    /** Feeds a text onto an empty tape, and no byte more. */
    static void feed(DrumPlacer x, String text) {
        byte[] b = bytes(text);
        x.end(0);
        for (int k = 0; k < b.length; k += 20) {
            x.feed(fourBytes(b, k), fourBytes(b, k + 4), fourBytes(b, k + 8),
                    fourBytes(b, k + 12), fourBytes(b, k + 16));
        }
        x.end(b.length);
    }

    static int tell(DrumPlacer x, String text) {
        feed(x, text);
        return x.drum();
    }

    private int pick(int below) {
        return random.nextInt(below);
    }

    private <T> T pickOf(List<T> list) {
        return list.get(pick(list.size()));
    }

    /** The tokens of a text, mostly without a fault, with about so many loose ITEMS at most. */
    List<String> tokens(int mostAddresses, int mostLoose) {
        int tracks;
        int sectors;
        do {
            tracks = 1 + pick(4);
            sectors = 2 + pick(11);
        } while (tracks * sectors > mostAddresses);
        List<Integer> quicks = new ArrayList<>(List.of(0));
        for (int q = 1; q < sectors; q++) {
            if (sectors % q == 0) {
                quicks.add(q);
            }
        }
        List<String> out = new ArrayList<>(List.of("drum", "tracks", "" + tracks, "sectors",
                "" + sectors, "wait", "" + pick(10), "quick", "" + pickOf(quicks), "mul",
                "" + pick(10), ";"));
        addItems(out, tracks * sectors, mostLoose);
        return out;
    }

    private void addItems(List<String> out, int addresses, int mostLoose) {
        // Now and then one more than there may be, for the third fault.
        int beyond = pick(12) == 0 ? 1 : 0;
        int words = Math.min(pick(9) + beyond, addresses + beyond);
        int steps = Math.min(pick(13) + beyond, addresses + beyond - words);
        List<String> names = new ArrayList<>(List.of(NAMES));
        Collections.shuffle(names, random);
        List<String> wordNames = names.subList(0, words);
        List<String> stepNames = names.subList(words, words + steps);
        List<Integer> free = new ArrayList<>();
        for (int a = 0; a < addresses; a++) {
            free.add(a);
        }
        Collections.shuffle(free, random);
        List<Integer> order = new ArrayList<>();
        for (int k = 0; k < words + steps; k++) {
            order.add(k);
        }
        if (pick(2) == 0) {
            Collections.shuffle(order, random);
        }
        List<Integer> loose = new ArrayList<>(order);
        Collections.shuffle(loose, random);
        loose = loose.subList(0, Math.min(loose.size(), mostLoose));
        String[] ops = stepOps(steps, words);
        for (int k : order) {
            if (k < words) {
                addWord(out, wordNames.get(k));
            } else {
                addStep(out, k - words, ops, wordNames, stepNames);
            }
            if (!free.isEmpty() && (!loose.contains(k) || pick(10) == 0)) {
                out.add("at");
                out.add("" + free.remove(0));
            }
            out.add(";");
        }
    }

    private String[] stepOps(int steps, int words) {
        String[] ops = new String[steps];
        for (int k = 0; k < steps; k++) {
            int kind = pick(20);
            if (words == 0) {
                ops[k] = kind < 14 ? "less" : "halt";
            } else {
                ops[k] = kind == 0 ? "halt" : Oracle.OPS.get(kind % 7);
            }
        }
        return ops;
    }

    private void addWord(List<String> out, String name) {
        out.add("word");
        out.add(name);
        if (pick(3) == 0) {
            out.add("-");
        }
        out.add("" + (pick(3) == 0 ? pick(10000) : pick(9)));
    }

    private void addStep(List<String> out, int k, String[] ops, List<String> words,
            List<String> steps) {
        List<String> movable = new ArrayList<>();
        for (int s = 0; s < ops.length; s++) {
            if (Oracle.OPS.indexOf(ops[s]) < 5) {
                movable.add(steps.get(s));
            }
        }
        String op = ops[k].equals("move") && movable.isEmpty() ? "halt" : ops[k];
        ops[k] = op;
        // Mostly the one behind it: so that runs come far.
        String next = pick(4) > 0 ? steps.get((k + 1) % steps.size()) : pickOf(steps);
        out.addAll(List.of("step", steps.get(k), op));
        switch (op) {
            case "halt" -> { }
            case "less" -> out.addAll(List.of(pickOf(steps), next));
            case "move" -> out.addAll(List.of(pickOf(movable), "" + (1 + pick(7)), next));
            default -> out.addAll(List.of(pickOf(words), next));
        }
    }

    /** Spoils a text here and there. */
    void spoil(List<String> tokens) {
        int times = 1 + pick(2);
        for (int k = 0; k < times && !tokens.isEmpty(); k++) {
            int at = pick(tokens.size());
            switch (pick(6)) {
                case 0 -> tokens.remove(at);
                case 1 -> tokens.add(at, tokens.get(at));
                case 2 -> tokens.set(at, pickOf(tokens));
                case 3 -> tokens.add(at, pickOf(List.of(STRAY)));
                case 4 -> tokens.set(at, pickOf(List.of(STRAY)));
                default -> {
                    if (pick(4) == 0) {
                        tokens.subList(at, tokens.size()).clear();
                    } else {
                        tokens.set(at, pickOf(List.of(STRAY)));
                    }
                }
            }
        }
    }

    /** Joins tokens, with blanks where they must be and now and then where they may be. */
    String join(List<String> tokens) {
        StringBuilder text = new StringBuilder();
        char before = ';';
        for (String token : tokens) {
            char first = token.charAt(0);
            boolean must = Character.isLetter(before) && Character.isLetter(first)
                    || Character.isDigit(before) && Character.isDigit(first);
            if (must || pick(6) == 0) {
                text.append(pick(8) == 0 ? '\n' : ' ');
            }
            text.append(token);
            before = token.charAt(token.length() - 1);
        }
        if (pick(10) == 0) {
            text.append("  ");
        }
        return text.length() > 700 ? text.substring(0, 700) : text.toString();
    }
}
