import java.io.IOException;
import java.util.List;

/** Each sentence of the terms I that names a boundary case: TEXT, TOKENS, FAULTS. */
public final class TextEdgeTests {
    private static final String HEAD = "drum tracks 1 sectors 4 wait 0 quick 0 mul 0;";
    private static final String ROOMY = "drum tracks 4 sectors 12 wait 0 quick 0 mul 0;";
    private static final String LONG_DIGITS = "9".repeat(60);
    /** Numbers that an int would take for small ones, if it were too short for them. */
    private static final List<String> WRAPPED = List.of("4294967296", "4294967297", "4294967298",
            "4294967300", "18446744073709551616", "18446744073709551617", "2147483648", LONG_DIGITS);
    private static final List<String> WITH_WORD = List.of("load", "add", "sub", "mul", "store");
    private static final List<String> WITH_TWO_NAMES = List.of("load", "add", "sub", "mul", "store",
            "less");

    private static final Sheet sheet = new Sheet();

    private static String words(int many) {
        StringBuilder text = new StringBuilder();
        for (int k = 0; k < many; k++) {
            text.append("word w").append((char) ('a' + k)).append(" 1;");
        }
        return text.toString();
    }

    private static String steps(int many) {
        StringBuilder text = new StringBuilder();
        for (int k = 0; k < many; k++) {
            text.append("step s").append((char) ('a' + k)).append(" halt;");
        }
        return text.toString();
    }

    private static String drum(int tracks, int sectors) {
        return "drum tracks " + tracks + " sectors " + sectors + " wait 0 quick 0 mul 0;";
    }

    private static boolean mayBeQuick(int quick, int sectors) {
        for (int times = 2; times <= 12; times++) {
            if (quick * times == sectors) {
                return true;
            }
        }
        return quick == 0;
    }

    private static void text() {
        sheet.under("I");
        sheet.says("TEXT: {LINE ;}");
        sheet.due("no LINE", sheet.fine("").count(9), 0);
        sheet.due("blanks alone", sheet.fine(" \n\n ").count(9), 0);
        sheet.due("one LINE", sheet.fine(HEAD).count(9), 1);
        sheet.due("the most LINES", sheet.fine(ROOMY + words(8) + steps(12)).count(9), 21);
        sheet.bad(1, "^;");
        sheet.bad(1, " \n ^;");
        sheet.bad(1, HEAD + "^;");
        sheet.bad(1, HEAD + "word x 1;^;");
        sheet.bad(1, HEAD + "word x 1; ^;word y 1;");
        sheet.bad(1, HEAD.replace(";", "^"));
        sheet.bad(1, HEAD.replace(";", " ^word x 1;"));
        sheet.bad(1, HEAD + "word x 1^");
        sheet.bad(1, HEAD + "word x 1 ^word y 1;");
        sheet.bad(1, HEAD + "step a halt^");
        sheet.bad(1, HEAD + "step a halt ^step b halt;");

        sheet.says("drum is the first LINE and no other");
        sheet.bad(1, "^word x 1;");
        sheet.bad(1, "^word x 1;" + HEAD);
        sheet.bad(1, "^step a halt;" + HEAD);
        sheet.bad(1, HEAD + "^" + HEAD);
        sheet.bad(1, HEAD + "word x 1;^" + HEAD);
        sheet.bad(1, HEAD + "step a halt;^drum");
        sheet.bad(1, "^tracks 1 sectors 4 wait 0 quick 0 mul 0;");
    }

    /** The words of the drum LINE stand in one order alone, each with one number. */
    private static void drumLine() {
        sheet.under("I");
        sheet.says("drum tracks T sectors S wait D quick Q mul M");
        String[] tokens = {"drum", "tracks", "1", "sectors", "4", "wait", "0", "quick", "0", "mul",
            "0"};
        for (int cut = 0; cut < tokens.length; cut++) {
            StringBuilder text = new StringBuilder();
            for (int k = 0; k < cut; k++) {
                text.append(tokens[k]).append(' ');
            }
            boolean numberDue = cut > 0 && cut % 2 == 0;
            sheet.bad(1, text + (cut == 0 ? "^;" : "^"));
            sheet.bad(1, text + "^;");
            sheet.bad(1, text + "^-1;");
            sheet.bad(1, text + "^.");
            sheet.bad(1, text + (numberDue ? "^word" : "^1"));
            sheet.bad(1, text + (numberDue ? "^mul 1" : "^" + tokens[cut] + "s 1"));
            sheet.bad(1, text + "^at 1");
        }
        sheet.bad(1, "drum tracks 1 sectors 4 wait 0 quick 0 mul 0 ^0;");
        sheet.bad(1, "drum tracks 1 sectors 4 wait 0 quick 0 mul 0 ^at 0;");
        sheet.bad(1, "drum ^sectors 4 tracks 1 wait 0 quick 0 mul 0;");
    }

    private static void drumNumbers() {
        sheet.under("I");
        sheet.says("T 1 .. 4");
        for (int t = 0; t <= 49; t++) {
            sheet.judged(t >= 1 && t <= 4, 2,
                    "drum tracks ^" + t + " sectors 4 wait 0 quick 0 mul 0;");
        }
        sheet.says("S 2 .. 12");
        for (int s = 0; s <= 49; s++) {
            sheet.judged(s >= 2 && s <= 12, 2,
                    "drum tracks 1 sectors ^" + s + " wait 0 quick 0 mul 0;");
        }
        sheet.says("D 0 .. 9");
        for (int d = 0; d <= 20; d++) {
            sheet.judged(d <= 9, 2, "drum tracks 1 sectors 4 wait ^" + d + " quick 0 mul 0;");
        }
        sheet.says("Q 0 or a divisor of S below S");
        for (int s = 2; s <= 12; s++) {
            for (int q = 0; q <= 25; q++) {
                sheet.judged(mayBeQuick(q, s), 2,
                        "drum tracks 1 sectors " + s + " wait 0 quick ^" + q + " mul 0;");
            }
        }
        sheet.says("M 0 .. 9");
        for (int m = 0; m <= 20; m++) {
            sheet.judged(m <= 9, 2, "drum tracks 1 sectors 4 wait 0 quick 0 mul ^" + m + ";");
        }
        for (String huge : WRAPPED) {
            sheet.bad(2, "drum tracks ^" + huge + " sectors 4 wait 0 quick 0 mul 0;");
            sheet.bad(2, "drum tracks 1 sectors ^" + huge + " wait 0 quick 0 mul 0;");
            sheet.bad(2, "drum tracks 1 sectors 4 wait ^" + huge + " quick 0 mul 0;");
            sheet.bad(2, "drum tracks 1 sectors 4 wait 0 quick ^" + huge + " mul 0;");
            sheet.bad(2, "drum tracks 1 sectors 4 wait 0 quick 0 mul ^" + huge + ";");
        }
    }

    private static void itemsAtMost() {
        sheet.under("I");
        sheet.says("WORDS 8 at most");
        for (int many = 0; many <= 8; many++) {
            sheet.due("WORDS", sheet.fine(ROOMY + words(many)).count(5), many);
        }
        sheet.bad(3, ROOMY + words(8) + "^word z 1;");
        sheet.says("STEPS 12 at most");
        for (int many = 0; many <= 12; many++) {
            sheet.due("STEPS", sheet.fine(ROOMY + steps(many)).count(6), many);
        }
        sheet.bad(3, ROOMY + steps(12) + "^step z halt;");
        sheet.says("N 0 .. 9,999");
        for (int n : new int[] {0, 1, 9, 10, 999, 1000, 9998, 9999}) {
            sheet.due("as told", sheet.fine(HEAD + "word x " + n + ";step a halt;").value(0), n);
            sheet.due("less it", sheet.fine(HEAD + "word x -" + n + ";step a halt;").value(0), -n);
            sheet.due("zeros ahead of it", sheet.fine(HEAD + "word x - " + "0".repeat(40) + n
                    + ";step a halt;").value(0), -n);
        }
        for (String n : List.of("10000", "10001", "19999", "20000", "65536", "99999", "100000")) {
            sheet.bad(2, HEAD + "word x ^" + n + ";");
            sheet.bad(2, HEAD + "word x -^" + n + ";");
        }
        for (String huge : WRAPPED) {
            sheet.bad(2, HEAD + "word x ^" + huge + ";");
            sheet.bad(2, HEAD + "word x -^" + huge + ";");
        }
    }

    private static void wordLine() {
        sheet.under("I");
        sheet.says("word NAME [-] N [at A]");
        sheet.due("with all", sheet.fine(HEAD + "word x - 5 at 3;").item(0, 1), 3);
        sheet.due("without any", sheet.fine(HEAD + "word x 5;").item(0, 1), 0);
        sheet.bad(1, HEAD + "word^");
        sheet.bad(1, HEAD + "word^;");
        sheet.bad(1, HEAD + "word ^5 5;");
        sheet.bad(1, HEAD + "word ^-5;");
        sheet.bad(1, HEAD + "word x^");
        sheet.bad(1, HEAD + "word x^;");
        sheet.bad(1, HEAD + "word x ^y 5;");
        sheet.bad(1, HEAD + "word x ^at 3;");
        sheet.bad(1, HEAD + "word x -^;");
        sheet.bad(1, HEAD + "word x -^");
        sheet.bad(1, HEAD + "word x -^-5;");
        sheet.bad(1, HEAD + "word x - ^at 3;");
        sheet.bad(1, HEAD + "word x 5^-;");
        sheet.bad(1, HEAD + "word x 5 ^5;");
        sheet.bad(1, HEAD + "word x 5 ^to 3;");
        sheet.bad(1, HEAD + "word x 5 at^;");
        sheet.bad(1, HEAD + "word x 5 at^");
        sheet.bad(1, HEAD + "word x 5 at ^-3;");
        sheet.bad(1, HEAD + "word x 5 at ^y;");
        sheet.bad(1, HEAD + "word x 5 at 3 ^at 2;");
        sheet.bad(1, HEAD + "word x 5 at 3 ^3;");
        sheet.bad(1, HEAD + "^words x 5;");
        sheet.bad(1, HEAD + "^x 5;");
        sheet.bad(1, HEAD + "^5;");
    }

    private static void stepLine() {
        sheet.under("I");
        sheet.says("step NAME OP [at A]");
        sheet.due("with all", sheet.fine(HEAD + "step a halt at 3;").item(0, 1), 3);
        sheet.bad(1, HEAD + "step^");
        sheet.bad(1, HEAD + "step^;");
        sheet.bad(1, HEAD + "step ^1 halt;");
        sheet.bad(1, HEAD + "step a^;");
        sheet.bad(1, HEAD + "step a^");
        sheet.bad(1, HEAD + "step a ^at 3;");
        sheet.bad(1, HEAD + "step a ^5;");
        sheet.bad(1, HEAD + "step a ^-;");
        sheet.bad(1, HEAD + "step a ^halts;");
        sheet.bad(1, HEAD + "step a ^drum;");
        sheet.bad(1, HEAD + "step a ^word x a;");
        sheet.bad(1, HEAD + "step a ^jump a a;");
        sheet.bad(1, HEAD + "^steps a halt;");
        sheet.says("load NAME NAME | add NAME NAME | sub NAME NAME | mul NAME NAME"
                + " | store NAME NAME | less NAME NAME");
        for (String op : WITH_TWO_NAMES) {
            String begun = HEAD + "word x 1;step a " + op;
            String first = op.equals("less") ? " a" : " x";
            sheet.due("its STEP", sheet.fine(begun + first + " a at 3;").item(1, 1), 3);
            sheet.bad(1, begun + "^;");
            sheet.bad(1, begun + "^");
            sheet.bad(1, begun + " ^1 a;");
            sheet.bad(1, begun + "^-");
            sheet.bad(1, begun + first + "^;");
            sheet.bad(1, begun + first + "^");
            sheet.bad(1, begun + first + " ^1 a;");
            sheet.bad(1, begun + first + " ^-a;");
            sheet.bad(1, begun + first + " a^");
            sheet.bad(1, begun + first + " a ^a;");
            sheet.bad(1, begun + first + " a ^1;");
        }
        sheet.says("move NAME N NAME");
        String move = HEAD + "word x 1;step b add x a;step a move";
        sheet.due("its STEP", sheet.fine(move + " b 1 b at 3;").item(2, 1), 3);
        sheet.bad(1, move + "^;");
        sheet.bad(1, move + " ^1 b;");
        sheet.bad(1, move + " b^;");
        sheet.bad(1, move + " b ^b;");
        sheet.bad(1, move + " b ^-1 b;");
        sheet.bad(1, move + " b 1^;");
        sheet.bad(1, move + " b 1 ^1 b;");
        sheet.bad(1, move + " b 1 b ^b;");
        sheet.says("halt");
        sheet.bad(1, HEAD + "step a halt ^a;");
        sheet.bad(1, HEAD + "step a halt ^1;");
        sheet.bad(1, HEAD + "step a halt^-;");
    }

    private static void addresses() {
        sheet.under("I");
        sheet.says("ITEMS: WORDS and STEPS, numbered from 0 as they stand");
        DrumPlacer x = sheet.fine(ROOMY + "step a halt at 9;word x 1 at 8;step b halt at 7;"
                + "word y 1 at 6;");
        for (int k = 0; k < 4; k++) {
            sheet.due("ADDRESS of ITEM " + k, x.item(k, 1), 9 - k);
            sheet.due("a STEP or a WORD, ITEM " + k, x.item(k, 0), 1 - k % 2);
        }
        sheet.due("no fifth one", x.item(4, 0), -2);

        sheet.says("A: an ADDRESS, 0 .. T times S less 1");
        for (int t = 1; t <= 4; t++) {
            for (int s = 2; s <= 12; s++) {
                String drum = drum(t, s);
                sheet.due("the least", sheet.fine(drum + "word x 1 at 0;").at(0), 0);
                sheet.due("the most", sheet.fine(drum + "step a halt at " + (t * s - 1) + ";")
                        .at(t * s - 1), 0);
                sheet.bad(2, drum + "word x 1 at ^" + t * s + ";");
                sheet.bad(2, drum + "step a halt at ^" + t * s + ";");
            }
        }
        for (String huge : WRAPPED) {
            sheet.bad(2, ROOMY + "word x 1 at ^" + huge + ";");
            sheet.bad(2, ROOMY + "step a halt at ^" + huge + ";");
        }

        sheet.says("told once at most: the ITEM is FIXED there");
        DrumPlacer y = sheet.fine(HEAD + "word x 1 at 0;word y 1;");
        sheet.due("FIXED", y.item(0, 2), 1);
        sheet.due("not FIXED", y.item(1, 2), 0);
        sheet.bad(2, HEAD + "word x 1 at 0;word y 1 at ^0;");
        sheet.bad(2, HEAD + "word x 1 at 3;step a halt at ^3;");
        sheet.bad(2, HEAD + "step a halt at 3;word y 1 at ^3;");
        sheet.bad(2, HEAD + "step a halt at 3;step b halt at ^3;");
        sheet.fine(HEAD + "word x 1 at 3;word y 1 at 2;step a halt at 0;step b halt at 1;");
        // An ITEM that lies there by LAW 0 alone has not told it.
        sheet.due("laid elsewhere", sheet.fine(HEAD + "word x 1;word y 1 at 0;").item(0, 1), 1);
    }

    private static boolean isBlank(int sign) {
        return sign == 32 || sign == 10;
    }

    private static boolean isLetter(int sign) {
        return "abcdefghijklmnopqrstuvwxyz".indexOf(sign) >= 0;
    }

    private static boolean isDigit(int sign) {
        return "0123456789".indexOf(sign) >= 0;
    }

    private static void everySign() {
        sheet.under("I, TOKENS");
        sheet.says("blanks (32, 10) aside");
        for (int sign = 0; sign < 256; sign++) {
            if (sign == '^') {
                continue;
            }
            char c = (char) sign;
            String rest = " 1 sectors 4 wait 0 quick 0 mul 0;";
            sheet.judged(isBlank(sign), 1, isLetter(sign) ? "^drum" + c + "tracks" + rest
                    : "drum^" + c + "tracks" + rest);
            sheet.judged(isBlank(sign), 1, "^" + c + HEAD);
            // Behind the last ; even a letter or a digit is one TOKEN too much.
            sheet.judged(isBlank(sign), 1, HEAD + "^" + c);
        }
        sheet.fine("\n\n " + HEAD.replace(" ", " \n \n ").replace(";", "\n ; \n") + "\n  ");
        sheet.fine("drum tracks1sectors4wait0quick0mul0;word x-5at3;step a halt at0;");

        sheet.says("words (a .. z)");
        for (int sign = 0; sign < 256; sign++) {
            if (sign != '^' && !isBlank(sign)) {
                sheet.judged(isLetter(sign), 1, HEAD + "word ^" + (char) sign + " 1;");
            }
        }
        sheet.says("numbers (digits)");
        for (int sign = 0; sign < 256; sign++) {
            // A minus may stand there, so what is missing then is the number behind it.
            if (sign != '^' && !isBlank(sign)) {
                sheet.judged(isDigit(sign), 1, sign == '-' ? HEAD + "word x -^;"
                        : HEAD + "word x ^" + (char) sign + ";");
            }
        }
        sheet.due("0", sheet.fine(HEAD + "word x 0;step a halt;").value(0), 0);
        sheet.due("9", sheet.fine(HEAD + "word x 9;step a halt;").value(0), 9);
        sheet.due("their order", sheet.fine(HEAD + "word x 1234;step a halt;").value(0), 1234);
    }

    private static void longestTokens() {
        sheet.under("I, TOKENS");
        sheet.says("the longest");
        sheet.bad(1, "^drumtracks 1 sectors 4 wait 0 quick 0 mul 0;");
        sheet.bad(1, HEAD + "^wordx 1;");
        sheet.bad(1, HEAD + "^stepa halt;");
        sheet.bad(1, HEAD + "step a ^halta;");
        sheet.bad(1, HEAD + "word x 1^a t 3;");
        sheet.bad(1, HEAD + "word x 1 ^2;");
        sheet.bad(1, HEAD + "word x^;1;");
        sheet.bad(1, HEAD + "word ab1^b1;");
        sheet.due("12, not 1 and 2", sheet.fine(HEAD + "word x 12;step a halt;").value(0), 12);
        sheet.due("four TOKENS", sheet.fine(HEAD + "word x12at3;").item(0, 1), 3);
        sheet.due("at and 3", sheet.fine(HEAD + "step a halt at3;").item(0, 1), 3);
        sheet.fine(HEAD + "word x 1;step a move b1b;step b load x a;");
        sheet.bad(1, HEAD + "word x- 1 ^-;");

        sheet.says("the signs ; -");
        sheet.fine(HEAD + "word x-1;word y - 1 ;");
        sheet.bad(1, HEAD + "word x 1^.");
        sheet.bad(1, HEAD + "word x ^.1;");
        sheet.bad(1, HEAD + "word x ^+1;");
        sheet.bad(1, HEAD + "word x 1^:");
        sheet.bad(1, HEAD + "word x 1^,");
    }

    private static void names() {
        sheet.under("I, TOKENS");
        sheet.says("NAMES: words of at most 6 letters");
        for (int letters = 1; letters <= 12; letters++) {
            String name = "abcdefghijkl".substring(0, letters);
            sheet.judged(letters <= 6, 2, HEAD + "word ^" + name + " 1;");
            sheet.judged(letters <= 6, 2, HEAD + "step ^" + name + " halt;");
        }
        sheet.bad(2, ROOMY + "word ^" + "z".repeat(600) + " 1;");
        sheet.bad(2, HEAD + "word ^sectors 1;");
        sheet.fine(HEAD + "word tracks 1;word wait 1;word quick 1;step n halt;");

        sheet.says("none of drum, word, step, at, halt, load, add, sub, mul, store, less, move");
        for (String word : Oracle.RESERVED) {
            sheet.bad(2, HEAD + "word ^" + word + " 1;");
            sheet.bad(2, HEAD + "step ^" + word + " halt;");
            sheet.bad(2, HEAD + "step a halt;step ^" + word + " halt;");
            sheet.fine(HEAD + "word " + word + "s 1;step z" + word + " halt;");
            sheet.fine(HEAD + "word " + word.substring(1) + " 1;");
            sheet.fine(HEAD + "word " + word.substring(0, word.length() - 1) + " 1;");
            for (int k = 0; k < word.length(); k++) {
                sheet.fine(HEAD + "word " + word.substring(0, k) + "q" + word.substring(k + 1)
                        + " 1;");
            }
        }

        sheet.says("none twice for ITEMS");
        for (String name : List.of("a", "z", "ab", "zzzzzz", "abcdef")) {
            sheet.bad(2, HEAD + "word " + name + " 1;word ^" + name + " 2;");
            sheet.bad(2, HEAD + "word " + name + " 1;step ^" + name + " halt;");
            sheet.bad(2, HEAD + "step " + name + " halt;word ^" + name + " 2;");
            sheet.bad(2, HEAD + "step " + name + " halt;word q 1;step ^" + name + " halt;");
            sheet.fine(HEAD + "word " + name + " 1;word " + name.substring(1) + "y 1;");
        }
        sheet.fine(HEAD + "word a 1;word aa 1;word aaa 1;word aaaaaa 1;");
        sheet.fine(HEAD + "word ab 1;word ba 1;word zzzzzz 1;word azzzzz 1;");
        // The last of the most ITEMS is still held against the first of them.
        sheet.bad(2, ROOMY + words(8) + steps(11) + "step ^wa halt;");
        sheet.bad(2, ROOMY + words(8) + steps(11) + "step ^sk halt;");
    }

    private static void firstFault() {
        sheet.under("I, FAULTS");
        sheet.says("the first by its place");
        sheet.bad(1, HEAD + "word ^1 10000;");
        sheet.bad(2, HEAD + "word x ^10000 ?;");
        sheet.bad(2, HEAD + "word ^drum 10000;");
        sheet.bad(2, HEAD + "word x 1 at 0;word y 1 at ^0?;");
        sheet.bad(2, HEAD + "word x 1 at ^4;word x 1 at 4;");
        sheet.bad(2, HEAD + "word x ^10000;" + words(4) + "word v 1;");
        sheet.bad(3, ROOMY + words(8) + "^word ? 10000");
        sheet.bad(1, ROOMY + words(7) + "word z ^z;word z 1;word z 1;");
        sheet.bad(2, "drum tracks ^5 sectors 13 wait 10 quick 7 mul 10;");
        sheet.bad(2, "drum tracks ^0;");

        sheet.says("of one place the least");
        // Out of all bounds, but no number can stand there; too long, but no NAME can.
        sheet.bad(1, HEAD + "word ^99999 1;");
        sheet.bad(1, HEAD + "step a halt ^99999;");
        sheet.bad(1, HEAD + "step a less ^99999 a;");
        sheet.bad(1, HEAD + "^99999;");
        sheet.bad(1, HEAD + "word x ^abcdefghij;");
        sheet.bad(1, HEAD + "word x 1 ^word 1;");
        sheet.bad(1, HEAD + "step a ^abcdefghij a a;");
        sheet.bad(1, HEAD + "^abcdefghij;");
        sheet.bad(1, ROOMY + words(8) + "^drum word 1;");
        sheet.bad(1, ROOMY + words(7) + "word z ^word;");
        // A ninth word that is also more than there are ADDRESSES; an ADDRESS too high, told already.
        sheet.bad(3, drum(4, 2) + words(8) + "^word z 1;");
        sheet.bad(2, HEAD + "word x 1 at 3;word y 1 at ^4;");

        sheet.says("a TOKEN's first byte");
        sheet.bad(1, "   ^drums tracks");
        sheet.bad(1, HEAD + "word x \n ^twelve;");
        sheet.bad(2, HEAD + "word x   ^00010000;");
        sheet.bad(2, HEAD + "word \n\n^abcdefg 1;");
        sheet.bad(3, HEAD + words(4) + "   ^word x 1;");
        sheet.bad(4, HEAD + "step a less    ^nobody a;");

        sheet.says("the end's");
        sheet.bad(1, "drum^");
        sheet.bad(1, "drum \n ^");
        sheet.bad(1, HEAD + "word^");
        sheet.bad(1, HEAD + "step a halt   ^");
        // A full TAPE: its end is at 700.
        String open = HEAD + "word x 1";
        sheet.bad(1, open + " ".repeat(700 - open.length()) + "^");
        sheet.bad(1, open + " ".repeat(699 - open.length()) + "^x");
        sheet.fine(open + " ".repeat(699 - open.length()) + ";");
        sheet.fine(HEAD + " ".repeat(700 - HEAD.length()));
        sheet.bad(1, "^" + "d".repeat(700));
        sheet.bad(1, HEAD + "word x " + "0".repeat(693 - HEAD.length()) + "^");
    }

    private static void strangeTokens() {
        sheet.under("I, FAULTS");
        sheet.says("1 a TOKEN that is none, or can't stand there");
        for (int sign = 0; sign < 256; sign++) {
            char c = (char) sign;
            boolean none = !isBlank(sign) && !isLetter(sign) && !isDigit(sign) && c != ';'
                    && c != '-' && c != '^';
            if (none) {
                sheet.bad(1, HEAD + "word ^" + c + "x 1;");
                sheet.bad(1, HEAD + "word x^" + c + " 1;");
                sheet.bad(1, HEAD + "word x 1 at ^" + c + "3;");
                sheet.bad(1, HEAD + "step a ^" + c + "halt;");
                sheet.bad(1, HEAD + "step a halt;^" + c);
            }
        }
        sheet.bad(1, HEAD + "^at 3;");
        sheet.bad(1, HEAD + "^halt;");
        sheet.bad(1, HEAD + "^-;");
        sheet.bad(1, HEAD + "^7;");

        sheet.says("any word may stand for a NAME");
        for (String word : List.of("drum", "word", "step", "at", "halt", "load", "add", "sub", "mul",
                "store", "less", "move", "tracks", "sectors", "abcdefg", "abcdefghijklmnop")) {
            boolean name = word.equals("tracks");
            sheet.judged(name, 2, HEAD + "word ^" + word + " 1;");
            sheet.judged(name, 2, HEAD + "step ^" + word + " halt;");
            sheet.bad(4, HEAD + "word x 1;step a load ^" + word + " a;");
            sheet.bad(4, HEAD + "word x 1;step a load x ^" + word + ";");
            sheet.bad(4, HEAD + "word x 1;step a load x ^" + word + " at 3;");
            sheet.bad(4, HEAD + "word x 1;step a less ^" + word + " a;");
            sheet.bad(4, HEAD + "word x 1;step a move ^" + word + " 1 a;");
            // What is behind it stands where it stood: so it was taken for a NAME.
            sheet.bad(1, HEAD + "word x 1;step a load " + word + " ^5;");
        }
        sheet.bad(4, HEAD + "step a less a ^at at 3;");
        sheet.bad(1, HEAD + "step a less a at ^3;");
    }

    private static void outOfBounds() {
        sheet.under("I, FAULTS");
        sheet.says("2 a number out of its bounds (move: N 1 .. 7)");
        for (int n = 0; n <= 20; n++) {
            sheet.judged(n >= 1 && n <= 7, 2, HEAD + "word x 1;step a move b ^" + n
                    + " a;step b add x a;");
        }
        for (String huge : WRAPPED) {
            sheet.bad(2, HEAD + "word x 1;step a move b ^" + huge + " a;step b add x a;");
        }
        sheet.fine(HEAD + "word x 1;step a move b 0007 a;step b add x a;");

        sheet.says("a NAME of more than 6 letters, one of those words, told already for an ITEM"
                + " (at its own LINE)");
        sheet.bad(2, HEAD + "word ^abcdefg 1;");
        sheet.bad(2, HEAD + "step ^abcdefg halt;");
        sheet.bad(2, HEAD + "word ^store 1;");
        sheet.bad(2, HEAD + "step ^store halt;");
        sheet.bad(2, HEAD + "word x 1;step ^x load x a;");
        // In an OP a NAME may come again and again, and ahead of its ITEM.
        sheet.fine(HEAD + "word x 1;step a load x a;step b load x a;");
        sheet.fine(HEAD + "step a load x b;step b load x a;word x 1;");
        sheet.bad(4, HEAD + "word abcdef 1;step a load ^abcdefg a;");

        sheet.says("an ADDRESS told already");
        sheet.bad(2, HEAD + "word x 1 at 2;word y 1 at ^2;");
        sheet.bad(2, HEAD + "word x 1 at 2;word y 1 at ^0002;");
        sheet.bad(2, HEAD + "word x 1 at 2;word y 1 at 1;step a halt at ^1;");
        sheet.bad(2, ROOMY + "word x 1 at 47;step a halt at ^47;");
        sheet.fine(HEAD + "word x 2 at 1;word y 2 at 0;");
    }

    private static void tooMany() {
        sheet.under("I, FAULTS");
        sheet.says("3 a ninth word, a thirteenth step, at its word");
        sheet.bad(3, ROOMY + words(8) + "^word");
        sheet.bad(3, ROOMY + words(8) + "^word wa 1;");
        sheet.bad(3, ROOMY + words(8) + steps(1) + "^word z 1;");
        sheet.bad(3, ROOMY + words(8) + steps(12) + "^word z 1;");
        sheet.bad(3, ROOMY + words(8) + steps(12) + "^step z halt;");
        sheet.bad(1, ROOMY + words(8) + steps(12) + "^drum z halt;");
        sheet.bad(1, ROOMY + words(8) + steps(12) + "^?");
        sheet.bad(3, ROOMY + steps(12) + "^step");
        sheet.bad(3, ROOMY + steps(12) + words(1) + "^step z halt;");
        sheet.bad(1, ROOMY + words(8) + "^words z 1;");
        sheet.bad(1, ROOMY + steps(12) + "^steps z halt;");
        sheet.fine(ROOMY + words(8) + steps(12));
        sheet.fine(ROOMY + steps(12) + words(8));

        sheet.says("an ITEM more than there are ADDRESSES, at its word");
        for (int t = 1; t <= 4; t++) {
            for (int s = 2; s <= 12 && t * s < 20; s++) {
                int room = t * s;
                String full = drum(t, s) + words(Math.min(room, 8)) + steps(Math.max(0, room - 8));
                sheet.fine(full);
                sheet.bad(3, full + "^word z 1;");
                sheet.bad(3, full + "^step z halt;");
                sheet.bad(1, full + "^;");
            }
        }
        sheet.bad(3, drum(1, 2) + "word x 1 at 0;word y 1 at 1;^word z 1 at 0;");
        sheet.bad(3, drum(1, 2) + "word x 1;word y 1;^step");
    }

    private static void notTold() {
        sheet.under("I, FAULTS");
        sheet.says("4 if there is none else");
        sheet.bad(1, HEAD + "step a less nobody a^");
        sheet.bad(2, HEAD + "step a less nobody a;word x ^10000;");
        sheet.bad(2, HEAD + "step a less nobody a at ^4;");
        sheet.bad(3, HEAD + "step a less nobody a;" + words(3) + "^word z 1;");
        sheet.bad(4, HEAD + "step a less ^nobody a;" + words(3));

        sheet.says("the first NAME (its place) in an OP that is not told so");
        sheet.bad(4, HEAD + "step a less ^p q;step b less r s;");
        sheet.bad(4, HEAD + "step a less b ^q;step b less r s;");
        sheet.bad(4, HEAD + "step a less b b;step b less ^r s;");
        sheet.bad(4, HEAD + "step a less b b;step b less a ^s;");
        sheet.bad(4, ROOMY + steps(11) + "step z less sa ^zz;");

        sheet.says("the first NAME of load, add, sub, mul, store is a WORD's");
        for (String op : WITH_WORD) {
            sheet.fine(HEAD + "word x 1;step a " + op + " x a;");
            sheet.fine(HEAD + "step a " + op + " x a;word x 1;");
            sheet.bad(4, HEAD + "word x 1;step a " + op + " ^a a;");
            sheet.bad(4, HEAD + "word x 1;step a " + op + " ^y a;");
        }
        sheet.says("of less a STEP's");
        sheet.fine(HEAD + "word x 1;step a less a a;");
        sheet.fine(HEAD + "step a less b b;step b halt;");
        sheet.bad(4, HEAD + "word x 1;step a less ^x a;");
        sheet.bad(4, HEAD + "step a less ^y a;");

        sheet.says("of move that of a STEP of load .. store");
        for (String op : WITH_WORD) {
            sheet.fine(HEAD + "word x 1;step a move b 1 a;step b " + op + " x a;");
        }
        sheet.bad(4, HEAD + "word x 1;step a move ^b 1 a;step b less a a;");
        sheet.bad(4, HEAD + "word x 1;step a move ^b 1 a;step b halt;");
        sheet.bad(4, HEAD + "word x 1;step a move ^b 1 a;step b move c 1 a;step c add x a;");
        sheet.bad(4, HEAD + "word x 1;step a move ^a 1 a;");
        sheet.bad(4, HEAD + "word x 1;step a move ^x 1 a;");
        sheet.bad(4, HEAD + "word x 1;step a move ^y 1 a;");

        sheet.says("the last one of all is a STEP's");
        for (String op : WITH_TWO_NAMES) {
            String first = op.equals("less") ? "a" : "x";
            sheet.bad(4, HEAD + "word x 1;step a " + op + " " + first + " ^x;");
            sheet.bad(4, HEAD + "word x 1;step a " + op + " " + first + " ^y;");
        }
        sheet.bad(4, HEAD + "word x 1;step a move b 1 ^x;step b add x a;");
        sheet.bad(4, HEAD + "word x 1;step a move b 1 ^y;step b add x a;");
    }

    public static void main(String[] args) throws IOException {
        text();
        drumLine();
        drumNumbers();
        itemsAtMost();
        wordLine();
        stepLine();
        addresses();
        everySign();
        longestTokens();
        names();
        firstFault();
        strangeTokens();
        outOfBounds();
        tooMany();
        notTold();
        sheet.close();
    }
}
