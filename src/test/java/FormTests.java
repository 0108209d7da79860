import java.io.IOException;
import java.lang.reflect.Constructor;
import java.lang.reflect.Field;
import java.lang.reflect.Method;
import java.lang.reflect.Modifier;
import java.nio.file.Files;
import java.nio.file.Path;
import java.util.ArrayList;
import java.util.Arrays;
import java.util.List;
import java.util.Map;
import java.util.Random;
import java.util.Set;
import java.util.TreeMap;
import java.util.TreeSet;
import java.util.regex.Matcher;
import java.util.regex.Pattern;
import java.util.stream.Collectors;

/** The form of the program: its face, LANGUAGE.md where a text tells it, and wild calls. */
public final class FormTests {
    private static final String FACE = """
            feed(int,int,int,int,int):int end(int):int drum():int fault(int):int count(int):int
            item(int,int):int at(int):int steps():int why():int acc():int value(int):int
            done(int,int):int time():int rounds():int lost():int lostFor(int):int worst():int
            met(int):int bound():int waiting(int):int quicker(int):int moved(int,int):int
            swapped(int,int):int best():int pair():int idle():int lawful(int):int
            address(int,int):int ways():long dearest():int put(int,int):int swap(int,int):int
            lays(int):int undo():int anew():int""";
    private static int wrong = 0;

    private static void hold(String what, boolean good) {
        if (!good) {
            wrong++;
            System.out.println("does not hold: " + what);
        }
    }

    private static String signature(Method m) {
        return m.getName() + Arrays.stream(m.getParameterTypes()).map(Class::getSimpleName)
                .collect(Collectors.joining(",", "(", ")")) + ":" + m.getReturnType();
    }

    private static void face() {
        Class<?> c = DrumPlacer.class;
        hold("public and final", Modifier.isPublic(c.getModifiers())
                && Modifier.isFinal(c.getModifiers()));
        Set<String> open = new TreeSet<>();
        Set<String> publicNames = new TreeSet<>();
        for (Method m : c.getDeclaredMethods()) {
            if (!Modifier.isPrivate(m.getModifiers())) {
                open.add(signature(m));
                publicNames.add(m.getName());
            }
        }
        hold("the face: " + open, open.equals(new TreeSet<>(List.of(FACE.split("\\s+")))));
        for (Field f : c.getDeclaredFields()) {
            boolean constant = f.getName().equals("NONE");
            hold("field " + f, constant ? Modifier.isPublic(f.getModifiers())
                    : Modifier.isPrivate(f.getModifiers()));
        }
        Constructor<?>[] made = c.getDeclaredConstructors();
        hold("one constructor", made.length == 1 && Modifier.isPublic(made[0].getModifiers())
                && made[0].getParameterCount() == 0);
        inside(c, publicNames);
    }

    private static void inside(Class<?> c, Set<String> publicNames) {
        hold("some twelve classes", c.getDeclaredClasses().length <= 11);
        for (Class<?> own : c.getDeclaredClasses()) {
            hold(own + " is static", Modifier.isStatic(own.getModifiers()));
            long fields = Arrays.stream(own.getDeclaredFields())
                    .filter(f -> !Modifier.isStatic(f.getModifiers())).count();
            hold(own + " has " + fields + " fields", fields <= 20);
            for (Method m : own.getDeclaredMethods()) {
                hold(m + " bears a public name", !publicNames.contains(m.getName()));
            }
            for (Field f : own.getDeclaredFields()) {
                hold(f + " is final", !Modifier.isStatic(f.getModifiers())
                        || Modifier.isFinal(f.getModifiers()));
            }
        }
        for (Method m : c.getDeclaredMethods()) {
            hold(m + " bears a public name", Modifier.isPublic(m.getModifiers())
                    || !publicNames.contains(m.getName()));
        }
    }

    /** Without comments, texts and signs, so that only the program's own words are left. */
    private static String bare(String source) {
        return source.replaceAll("(?s)/\\*.*?\\*/", " ").replaceAll("//[^\n]*", " ")
                .replaceAll("\"(\\\\.|[^\"\\\\])*\"", "\"\"").replaceAll("'(\\\\.|[^'\\\\])'", "' '");
    }

    private static void words(String source) {
        String code = bare(source);
        for (String word : List.of("throw", "throws", "try", "catch", "synchronized", "assert",
                "package", "var", "volatile", "native", "protected", "import", "Object",
                "Integer", "double", "float", "new String", "hashCode", "equals", "toString")) {
            hold("no " + word, !Pattern.compile("\\b" + word + "\\b").matcher(code).find());
        }
        hold("no lambda", !code.contains("->") && !code.contains("::"));
        hold("no tab", !source.contains("\t"));
        hold("plain signs", source.chars().allMatch(c -> c == '\n' || c >= 32 && c < 127));
        hold("lines of 100 at most", source.lines().allMatch(l -> l.length() <= 100));
        Set<String> library = new TreeSet<>();
        Matcher m = Pattern.compile("\\b(System|Math|Arrays|Long)\\.\\w+").matcher(code);
        while (m.find()) {
            library.add(m.group());
        }
        hold("library " + library, Set.of("System.arraycopy", "Math.min", "Math.max",
                "Math.floorMod").containsAll(library));
    }

    private static void methods(String source) {
        String[] lines = source.split("\n");
        int begun = -1;
        String indent = "";
        for (int k = 0; k < lines.length; k++) {
            Matcher m = Pattern.compile("^( {4}| {8})(?=\\S)[\\w\\[\\] ]+\\((.*)\\) \\{$")
                    .matcher(lines[k]);
            if (begun < 0 && m.find()) {
                begun = k;
                indent = m.group(1);
                hold("seven parameters: " + lines[k], m.group(2).split(",").length <= 7);
            } else if (begun >= 0 && lines[k].equals(indent + "}")) {
                hold("short: " + lines[begun], k - begun <= 60);
                begun = -1;
            }
        }
    }

    /** Each method's name with the names of those that its body calls. */
    private static Map<String, Set<String>> calls(String source) {
        Map<String, String> bodies = new TreeMap<>();
        Matcher m = Pattern.compile("(?m)^( {4}| {8})(?! )(?:[\\w\\[\\]]+ )+(\\w+)\\([^()]*\\) \\{\n"
                + "((?:(?!\\1\\}).*\n)*)").matcher(bare(source));
        while (m.find()) {
            bodies.merge(m.group(2), m.group(3), String::concat);
        }
        Map<String, Set<String>> calls = new TreeMap<>();
        bodies.forEach((name, body) -> {
            Set<String> called = new TreeSet<>();
            Matcher c = Pattern.compile("(\\w+)\\(").matcher(body);
            while (c.find()) {
                if (bodies.containsKey(c.group(1)) || c.group(1).matches("length|charAt|arraycopy"
                        + "|floorMod|min|max")) {
                    called.add(c.group(1));
                }
            }
            calls.put(name, called);
        });
        return calls;
    }

    /** How many calls stand open at most; a method that calls itself is counted once. */
    private static int depth(String name, Map<String, Set<String>> calls, List<String> open) {
        int most = 0;
        for (String called : calls.getOrDefault(name, Set.of())) {
            boolean again = called.equals(name);
            hold(called + " is called round about, open are " + open, again
                    || !open.contains(called));
            if (!open.contains(called) && !again) {
                List<String> deeper = new ArrayList<>(open);
                deeper.add(called);
                most = Math.max(most, depth(called, calls, deeper));
            }
        }
        return most + 1;
    }

    private static void depths(String source) {
        Map<String, Set<String>> calls = calls(source);
        hold("methods were found: " + calls.size(), calls.size() > 100);
        for (String name : calls.keySet()) {
            int depth = depth(name, calls, List.of(name));
            hold(name + " goes " + depth + " deep", depth <= 8);
        }
        for (Map.Entry<String, Set<String>> each : calls.entrySet()) {
            hold(each.getKey() + " calls itself", each.getKey().equals("layLoose")
                    == each.getValue().contains(each.getKey()));
        }
    }

    private static int wild(Random random) {
        int[] edges = {0, 1, 2, 3, 4, 5, 6, 10, 11, 19, 20, 21, 47, 48, 99, 100, 101, 700, -1, -2,
            Integer.MIN_VALUE, Integer.MAX_VALUE};
        return random.nextInt(5) == 0 ? random.nextInt() : edges[random.nextInt(edges.length)];
    }

    private static void wildCall(DrumPlacer x, Random random) throws ReflectiveOperationException {
        Method[] all = DrumPlacer.class.getDeclaredMethods();
        Arrays.sort(all, (a, b) -> signature(a).compareTo(signature(b)));
        List<Method> open = Arrays.stream(all)
                .filter(m -> Modifier.isPublic(m.getModifiers())).toList();
        Method m = open.get(random.nextInt(open.size()));
        Object[] arguments = new Object[m.getParameterCount()];
        for (int k = 0; k < arguments.length; k++) {
            arguments[k] = wild(random);
        }
        m.invoke(x, arguments);
    }

    /** No call throws, whatever its arguments and whatever came before. */
    private static void wildCalls() throws ReflectiveOperationException {
        Random random = new Random(36);
        Texts texts = new Texts(random);
        for (int k = 0; k < 200; k++) {
            DrumPlacer x = new DrumPlacer();
            for (int n = 0; n < 512; n++) {
                wildCall(x, random);
                if (random.nextInt(60) == 0) {
                    List<String> tokens = texts.tokens(48, random.nextInt(20));
                    if (random.nextInt(3) == 0) {
                        texts.spoil(tokens);
                    }
                    Texts.tell(x, texts.join(tokens));
                }
            }
        }
    }

    /** Calls make no objects: all of a run live in one room. */
    private static void room() {
        com.sun.management.ThreadMXBean threads = (com.sun.management.ThreadMXBean)
                java.lang.management.ManagementFactory.getThreadMXBean();
        String text = "drum tracks 4 sectors 12 wait 1 quick 6 mul 2;word x 3;word y 4;"
                + "step a mul x b;step b store y a;";
        DrumPlacer warm = new DrumPlacer();
        byte[] bytes = Texts.bytes(text);
        long before = threads.getThreadAllocatedBytes(Thread.currentThread().getId());
        DrumPlacer x = new DrumPlacer();
        long made = threads.getThreadAllocatedBytes(Thread.currentThread().getId()) - before;
        hold("a new object has " + made + " bytes", made < 40000);
        Texts.tell(warm, text);
        before = threads.getThreadAllocatedBytes(Thread.currentThread().getId());
        long sum = 0;
        for (int k = 0; k < bytes.length; k += 20) {
            sum += x.feed(Texts.fourBytes(bytes, k), Texts.fourBytes(bytes, k + 4),
                    Texts.fourBytes(bytes, k + 8), Texts.fourBytes(bytes, k + 12),
                    Texts.fourBytes(bytes, k + 16));
        }
        sum += x.end(bytes.length) + x.drum();
        for (int k = 0; k < 20; k++) {
            sum += x.lays(k % 3) + x.best() + x.pair() + x.idle() + x.ways() + x.dearest()
                    + x.worst() + x.lost() + x.bound() + x.done(k, 3) + x.waiting(k) + x.quicker(3)
                    + x.swapped(0, 1) + x.moved(0, 40) + x.address(1, 2) + x.at(3) + x.item(1, 1);
        }
        sum += x.undo() + x.anew();
        made = threads.getThreadAllocatedBytes(Thread.currentThread().getId()) - before;
        hold("calls made " + made + " bytes, sum " + sum, made < 2000);
    }

    public static void main(String[] args) throws IOException, ReflectiveOperationException {
        String source = Files.readString(Path.of("src/main/java/DrumPlacer.java"));
        face();
        words(source);
        methods(source);
        depths(source);
        wildCalls();
        room();
        System.out.println(wrong == 0 ? "the form is as due" : wrong + " things do not hold");
        if (wrong != 0) {
            System.exit(1);
        }
    }
}
