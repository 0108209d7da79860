import java.io.IOException;
import java.nio.file.Files;
import java.nio.file.Path;
import java.util.LinkedHashMap;
import java.util.Map;

/**
 * Questions ordered by the document's own sentences. A sentence that was named must have been
 * asked about, and each one is counted alone: so a sentence without a test shows itself.
 */
final class Sheet {
    private static final Path DOCUMENT = Path.of("../shared/DOC.md");

    private final Map<String, Integer> asked = new LinkedHashMap<>();
    private String place = "";
    private String sentence = "";
    private int wrong = 0;

    /** The heading under which the next sentences stand. */
    void under(String heading) {
        place = heading;
    }

    /** A sentence, or a part of one, in the document's own words. */
    void says(String words) {
        sentence = words;
        asked.putIfAbsent(place + ": " + words, 0);
    }

    void due(String call, long got, long want) {
        asked.merge(place + ": " + sentence, 1, Integer::sum);
        if (got != want) {
            wrong++;
            if (wrong <= 40) {
                System.out.println(place + ", \"" + sentence + "\": " + call + " answered " + got
                        + ", due is " + want);
            }
        }
    }

    /** A text that is without a fault; the object that was told it. */
    DrumPlacer fine(String text) {
        DrumPlacer x = new DrumPlacer();
        int lines = Texts.tell(x, text);
        due("drum() of " + text, Math.min(lines, 0), 0);
        due("fault(0) of " + text, x.fault(0), 0);
        due("fault(1) of " + text, x.fault(1), -1);
        return x;
    }

    /** A text with a fault; the sign ^ shows its place and is not told. */
    void bad(int fault, String marked) {
        int at = marked.indexOf('^');
        String text = marked.substring(0, at) + marked.substring(at + 1);
        DrumPlacer x = new DrumPlacer();
        due("drum() of " + text, Texts.tell(x, text), -4);
        due("fault(0) of " + text, x.fault(0), fault);
        due("fault(1) of " + text, x.fault(1), at);
    }

    /** As fine() or as bad(), by whether the marked text is good. */
    void judged(boolean good, int fault, String marked) {
        if (good) {
            fine(marked.replace("^", ""));
        } else {
            bad(fault, marked);
        }
    }

    /** A text with no fault, as a means only. */
    static DrumPlacer of(String text) {
        DrumPlacer x = new DrumPlacer();
        int lines = Texts.tell(x, text);
        if (lines < 0) {
            throw new IllegalStateException("fault " + x.fault(0) + " at " + x.fault(1) + " of "
                    + text);
        }
        return x;
    }

    /** Says how it went, and ends with exit code 1 if a question went wrong or was not asked. */
    void close() throws IOException {
        int unasked = 0;
        int questions = 0;
        for (Map.Entry<String, Integer> each : asked.entrySet()) {
            questions += each.getValue();
            if (each.getValue() == 0) {
                unasked++;
                System.out.println("without a question: " + each.getKey());
            }
        }
        tellStrangeSentences();
        System.out.println(questions + " questions on " + asked.size() + " sentences");
        System.out.println(wrong == 0 ? "all answers are as due" : wrong + " answers are not as due");
        if (wrong != 0 || unasked != 0) {
            System.exit(1);
        }
    }

    /** A document that has changed is no fault of the program: it is told, and no more. */
    private void tellStrangeSentences() throws IOException {
        if (!Files.exists(DOCUMENT)) {
            return;
        }
        String document = Files.readString(DOCUMENT).replaceAll("\\s+", " ");
        for (String each : asked.keySet()) {
            String words = each.substring(each.indexOf(": ") + 2);
            for (String part : words.split(" \\.\\.\\. ")) {
                if (!document.contains(part)) {
                    System.out.println("not in the document (any more): " + each);
                }
            }
        }
    }
}
