import java.util.ArrayList;
import java.util.List;

/** Promises 5 to 7: a test for each sentence of the document that names an edge. */
public final class EdgesTextsTest {
    private static final int FAR = Integer.MAX_VALUE, DEEP = Integer.MIN_VALUE, BAD = -2, FULL = -4;
    private static final String WHOLE = "ripens 1;takes 1;spoils 1;";
    private static final Check check = new Check();

    public static void main(String[] args) {
        bytes();
        fullTape();
        emptyTape();
        endsTooEarly();
        goesOn();
        lastPlaces();
        everyByte();
        numbersTooLong();
        longestWords();
        blanks();
        tokenByToken();
        sixOpen("", 0);
        closedAgain();
        sixTexts();
        faultTakesNoNumber();
        wraps();
        truth();
        boundsOfSpoils();
        offIsNone();
        forced();
        check.end();
    }

    private static int learn(String text) {
        return Check.learn(new BeforeItGoes(), text);
    }

    private static void good(String text) {
        check.due("P6 " + text, learn(text), 1);
    }

    private static void fault(String text, int place) {
        check.due("P6 " + text, learn(text), -100 - place);
    }

    /** Promise 5: "A byte (0 .. 255)"; "BAD". */
    private static void bytes() {
        BeforeItGoes x = new BeforeItGoes();
        for (int letter = 0; letter < 256; letter++) {
            if (letter % 2 == 0) {
                check.due("P5 feed(" + letter + ")", x.feed(letter), letter / 2 + 1);
            }
        }
        BeforeItGoes y = new BeforeItGoes();
        for (int letter = 1; letter < 256; letter += 2) {
            check.due("P5 feed(" + letter + ")", y.feed(letter), letter / 2 + 1);
        }
        for (int letter : new int[] {-1, 256, 257, 32 + 256, -224, FAR, DEEP}) {
            check.due("P5 feed(" + letter + ")", y.feed(letter), BAD);
            check.due("P5 THE TAPE has as many", y.count(8), 128);
        }
    }

    /** Terms 1: "THE TAPE (160 bytes at most)"; promise 5: "how many it has. BAD; FULL." */
    private static void fullTape() {
        BeforeItGoes x = new BeforeItGoes();
        for (int n = 1; n <= 160; n++) {
            check.due("P5 byte " + n, x.feed(' '), n);
        }
        check.due("P5 byte 161", x.feed(' '), FULL);
        check.due("P5 none such", x.feed(256), BAD);
        check.due("P5 160 of them", x.count(8), 160);
        check.due("P6 160 blanks: its size", x.text(), -260);
        check.due("P6 empty by a FAULT", x.count(8), 0);
        check.due("P5 there is room", x.feed(' '), 1);
    }

    /** Promise 6: "THE TAPE, which is empty then (by a FAULT, too)". */
    private static void emptyTape() {
        BeforeItGoes x = new BeforeItGoes();
        check.due("P6 of nothing", x.text(), -100);
        check.due("P6 a TEXT", Check.learn(x, WHOLE), 1);
        check.due("P6 empty then", x.count(8), 0);
        check.due("P6 of nothing again", x.text(), -100);
        check.due("P6 a FAULT", Check.learn(x, "ripens ;"), -107);
        check.due("P6 empty by it, too", x.count(8), 0);
        check.due("P6 of nothing once more", x.text(), -100);
        check.due("P6 the next TEXT", Check.learn(x, WHOLE), 2);
    }

    /** Terms 1: "(the text's size, if it ends too early)". */
    private static void endsTooEarly() {
        String text = "ripens not ( warm < 1 or - 2 = 3 and 4 * 5 ) ; takes 1 + 2 ; spoils 3 - 4 ;";
        String[] tokens = text.split(" ");
        StringBuilder begin = new StringBuilder();
        for (String token : tokens) {
            fault(begin.toString(), begin.length());
            begin.append(token);
            if (begin.length() < text.length()) {
                fault(begin.toString(), begin.length());
                fault(begin + " \n ", begin.length() + 3);
            }
            begin.append(' ');
        }
        good(text);
        good(text + " \n ");
        // one that is cut off within a WORD has a FAULT there
        fault("ripens 1;takes 1;spoil", 17);
        fault("ripen", 0);
        fault("ripens war", 7);
    }

    /** Terms 1: a TEXT has three parts; what stands behind them can't stand there. */
    private static void goesOn() {
        for (String more : new String[] {";", "1", "warm", "ripens", "takes", "(", "?", "00000", "or"}) {
            fault(WHOLE + more, 26);
            fault(WHOLE + " " + more, 27);
        }
        fault("takes 1;ripens 1;spoils 1;", 0);
        fault("ripens 1;ripens 1;takes 1;spoils 1;", 9);
        fault("ripens 1;takes 1;takes 1;spoils 1;", 17);
        fault("ripens;takes;spoils;", 6);
    }

    /** A FAULT in the first and the last place that THE TAPE has, and a TEXT that takes all 160. */
    private static void lastPlaces() {
        String blanks = " ".repeat(160 - WHOLE.length());
        good(WHOLE + blanks);
        good(blanks + WHOLE);
        good("ripens " + blanks + WHOLE.substring(7));
        fault(WHOLE + blanks.substring(1) + "?", 159);
        fault("?" + blanks + WHOLE.substring(1), 0);
        fault(blanks.substring(1) + WHOLE.substring(0, 25) + " 1", 159);
        fault(blanks + WHOLE.substring(0, 25) + "1", 160);
        fault(blanks + WHOLE.substring(0, 25) + " ", 160);
        good("ripens 1" + "+1".repeat(67) + ";takes 1;spoils 1;");
        good("ripens 1;takes 1;spoils 1" + "*1".repeat(67) + ";");
    }

    /** Terms 1: "also of a byte that begins none": each byte behind an E, ahead of its end. */
    private static void everyByte() {
        for (int letter = 0; letter < 256; letter++) {
            String text = "ripens 1 " + (char) letter + ";takes 1;spoils 1;";
            String what = "P6 byte " + letter;
            if (letter == ' ' || letter == '\n') {
                check.due(what, learn(text), 1);
            } else if ("+-*<=;".indexOf(letter) >= 0) {
                check.due(what, learn(text), -110);
            } else {
                check.due(what, learn(text), -109);
            }
            String ahead = "ripens " + (char) letter + "1;takes 1;spoils 1;";
            boolean stands = letter == ' ' || letter == '\n' || letter == '-' || letter >= '0' && letter <= '9';
            check.due(what + " ahead of a NUMBER", learn(ahead), stands ? 1 : letter == '(' ? -109 : -107);
            String alone = (char) letter + "";
            check.due(what + " alone", learn(alone), letter == ' ' || letter == '\n' ? -101 : -100);
        }
    }

    /** Terms 1: "NUMBERS (as many digits as stand there, 4 at most)"; "a NUMBER that is too long". */
    private static void numbersTooLong() {
        String digits = "";
        for (int n = 1; n <= 20; n++) {
            digits += n % 2 == 0 ? "0" : "9";
            String text = "ripens 1 + " + digits + ";takes 1;spoils 1;";
            check.due("P6 a NUMBER of " + n, learn(text), n > 4 ? -111 : 1);
        }
        good("ripens 9999;takes 0000;spoils 0001;");
        fault("ripens 10000;takes 1;spoils 1;", 7);
        fault("ripens 00000;takes 1;spoils 1;", 7);
        fault("ripens 1 00000;takes 1;spoils 1;", 9);
        fault("ripens 1234 5;takes 1;spoils 1;", 12);
        fault("ripens " + "7".repeat(153), 7);
        fault("ripens 9999", 11);
    }

    /** Terms 1: "TOKENS, each as long as can be"; "a WORD that is neither KEY nor NAME". */
    private static void longestWords() {
        for (String name : new String[] {"warm", "age", "dirt", "yards", "off", "number"}) {
            good("ripens " + name + ";takes 1;spoils 1;");
            good("ripens 1-" + name + ";takes 1;spoils(" + name + ");");
            fault("ripens " + name + "s;takes 1;spoils 1;", 7);
            fault("ripens a" + name + ";takes 1;spoils 1;", 7);
            fault("ripens not" + name + ";takes 1;spoils 1;", 7);
            fault("ripens " + name + name + ";takes 1;spoils 1;", 7);
            fault("ripens " + name.substring(1) + ";takes 1;spoils 1;", 7);
            fault("ripens " + name.substring(0, name.length() - 1) + ";takes 1;spoils 1;", 7);
            fault("ripens " + name.toUpperCase() + ";takes 1;spoils 1;", 7);
            fault("ripens " + name + "1;takes 1;spoils 1;", 7 + name.length());
            fault("ripens " + name + " " + name + ";takes 1;spoils 1;", 8 + name.length());
            good("ripens 1" + "or " + name + ";takes 1;spoils 1;");
        }
        for (String key : new String[] {"ripens", "takes", "spoils", "or", "and"}) {
            fault("ripens " + key + " 1;takes 1;spoils 1;", 7);
            fault("ripens 1 " + key + "s 1;takes 1;spoils 1;", 9);
        }
        good("ripens 1or 2and not(3)or 4;takes 1;spoils 1;");
        fault("ripens 1 ora 2;takes 1;spoils 1;", 9);
        fault("ripens 1 orand 2;takes 1;spoils 1;", 9);
        fault("ripensnot 1;takes 1;spoils 1;", 0);
        good("ripens9;takes9;spoils9;");
        fault("ripens 1;takes1;spoilsoff;", 16);
    }

    /** Terms 1: "blanks (32, 10) may stand between": between, not within. */
    private static void blanks() {
        good(" \n ripens\n\n1 ;\ntakes 1 ; spoils  1\n;\n");
        good("ripens 1;takes 1;spoils 1;");
        fault("ri pens 1;takes 1;spoils 1;", 0);
        fault("ripens 1 2;takes 1;spoils 1;", 9);
        fault("ripens wa rm;takes 1;spoils 1;", 7);
        for (int blank : new int[] {0, 9, 11, 12, 13, 31, 33, 95, 127, 128, 133, 160, 255}) {
            fault("ripens" + (char) blank + "1;takes 1;spoils 1;", 6);
        }
    }

    /** Terms 1, the grammar: each TOKEN where a ONE is due, a NOT, and behind a ONE, in a ( and outside. */
    private static void tokenByToken() {
        String[] tokens = {"(", ")", ";", "+", "-", "*", "<", "=", "7", "warm", "ripens", "takes", "spoils", "or", "and", "not"};
        for (String token : tokens) {
            boolean one = token.equals("(") || token.equals("-") || token.equals("7") || token.equals("warm");
            boolean sign = "+-*<=".contains(token) || token.equals("or") || token.equals("and");
            for (String ahead : new String[] {"", "not ", "( ", "1 or ", "1 and ", "1 and not ", "( 1 or ", "1 < 2 and "}) {
                stands("ripens " + ahead, token, one || token.equals("not"));
            }
            for (String ahead : new String[] {"- ", "1 + ", "1 - ", "1 * ", "1 < ", "1 = ", "not - ", "not 1 < ", "- - "}) {
                stands("ripens " + ahead, token, one);
            }
            for (String ahead : new String[] {"1 ", "- 1 ", "warm ", "1 + 1 ", "not 1 ", "( 1 ) ", "1 < 2 and 1 "}) {
                stands("ripens " + ahead, token, sign || token.equals(";"));
            }
            for (String ahead : new String[] {"( 1 ", "( ( 1 ) ", "1 < ( 2 ", "- ( not 1 "}) {
                stands("ripens " + ahead, token, sign || token.equals(")"));
            }
            boolean noMore = sign && !token.equals("<") && !token.equals("=");
            for (String ahead : new String[] {"1 < 2 ", "1 = 2 ", "not 1 < 2 ", "1 or 1 = 2 + 3 ", "1 < ( 2 = 3 ) "}) {
                stands("ripens " + ahead, token, noMore || token.equals(";"));
            }
            stands("", token, token.equals("ripens"));
            stands("ripens 1 ; ", token, token.equals("takes"));
            stands("ripens 1 ; takes 1 ; ", token, token.equals("spoils"));
        }
    }

    /** Whether a TOKEN can stand behind what is ahead is seen by where the FAULT of an unknown byte behind both is. */
    private static void stands(String ahead, String token, boolean stands) {
        String text = ahead + token + " ?";
        check.due("P6 " + text, learn(text), -100 - (stands ? text.length() - 1 : ahead.length()));
    }

    /** Terms 1: "a ( , a not, a - ahead of a ONE while 5 of these are open": all rows of them, up to 6. */
    private static void sixOpen(String opened, int brackets) {
        int open = opened.replace("not", "n").replace(" ", "").length();
        String[] more = {"( ", "not ", "- "};
        for (int i = 0; i < 3; i++) {
            boolean notMayStand = !opened.endsWith("- ");
            String text = "ripens " + opened + more[i];
            if (open == 5 || i == 1 && !notMayStand) {
                fault(text + "?", 7 + opened.length());
            } else {
                fault(text + "?", text.length());
                good(text + "1" + " )".repeat(brackets + (i == 0 ? 1 : 0)) + ";takes 1;spoils 1;");
                sixOpen(opened + more[i], brackets + (i == 0 ? 1 : 0));
            }
        }
    }

    /** Terms 1: "(a ( till its ) , not and - till what they belong to ends)". */
    private static void closedAgain() {
        String rest = ";takes 1;spoils 1;";
        // a - ends with its ONE
        good("ripens - - - - - 1 * - - - - - 1 + - - - - - 1 < - - - - - 1" + rest);
        good("ripens - - - - ( 1 ) + - - - - ( 1 )" + rest);
        fault("ripens - - - - ( 1 + - 1 )" + rest, 21);
        // a not goes on till its NOT ends: behind a SUM, and a SUM behind < or =
        fault("ripens not not not not not 1 + ( 1 )" + rest, 31);
        fault("ripens not not not not not 1 = - 1" + rest, 31);
        fault("ripens not not not not not 1 * - 1" + rest, 31);
        good("ripens not not not not not 1 and ( ( ( ( ( 1 ) ) ) ) )" + rest);
        good("ripens not not not not not 1 or - - - - - 1" + rest);
        good("ripens ( not not not not 1 ) + ( not not not not 1 )" + rest);
        // a ( goes on till its )
        good("ripens ( ( ( ( ( 1 ) ) ) ) ) * ( ( ( ( ( 1 ) ) ) ) )" + rest);
        good("ripens ( ( ( ( ( 1 ) + ( 1 ) ) ) ) )" + rest);
        fault("ripens ( ( ( ( ( 1 ) + ( ( 1 ) ) ) ) ) )" + rest, 25);
        fault("ripens ( ( ( ( ( 1 or not 2 ) ) ) ) )" + rest, 22);
        good("ripens ( ( ( ( ( 1 or 2 ) ) ) ) )" + rest);
        good("ripens ( ( ( ( ( 1 - 2 ) ) ) ) )" + rest);
        // none is open any more in the next part
        good("ripens - - - - - 1;takes not not not not not 1;spoils ( ( ( ( ( 1 ) ) ) ) );");
        fault("ripens - - - - - 1;takes not not not not not ( 1 );spoils 1;", 45);
    }

    /** Terms 1: "There are 6 TEXTS at most, TEXT 0 with them"; promise 6: "FULL (ahead of all)". */
    private static void sixTexts() {
        BeforeItGoes x = new BeforeItGoes();
        for (int text = 1; text <= 5; text++) {
            check.due("P6 TEXT " + text, Check.learn(x, WHOLE), text);
            check.due("P6 how many then", x.count(7), text + 1);
        }
        check.due("P6 a good one", Check.learn(x, WHOLE), FULL);
        check.due("P6 THE TAPE stays", x.count(8), 26);
        check.due("P6 a faulty one", Check.learn(x, "?"), FULL);
        check.due("P6 THE TAPE stays", x.count(8), 27);
        check.due("P6 six", x.count(7), 6);
        BeforeItGoes y = new BeforeItGoes();
        for (int text = 1; text <= 5; text++) {
            Check.learn(y, WHOLE);
        }
        check.due("P6 of an empty tape", y.text(), FULL);
    }

    private static void faultTakesNoNumber() {
        BeforeItGoes x = new BeforeItGoes();
        for (int i = 0; i < 10; i++) {
            check.due("P6 a FAULT", Check.learn(x, "ripens 1;takes"), -114);
            check.due("P6 no more TEXTS", x.count(7), 1);
            check.due("P7 no TEXT 1", x.force(1), BAD);
        }
        check.due("P6 TEXT 1", Check.learn(x, WHOLE), 1);
        check.due("P7 TEXT 1", x.force(1), 0);
    }

    /** The value of an E by a WALL of NUMBER 3, 7 YARDS, in 101 .. 200. */
    private static void value(String e, int value) {
        BeforeItGoes x = Check.ruled("ripens 150+(" + e + ");takes 1;spoils 0;");
        x.wall(0, 3, 7);
        check.due("P6 the value of " + e, x.told(0, 4), 150 + value);
    }

    /** Terms 1: "An E is an int (32 bits, wrapping)". */
    private static void wraps() {
        String most = "(8192*8192*32-1)", least = "(8192*8192*32)";
        value(most + "+1=" + least, 1);
        value(least + "-1=" + most, 1);
        value(least + "-1<" + most, 0);
        value(most + "<" + least, 0);
        value(least + "<" + most, 1);
        value("-" + least + "=" + least, 1);
        value(least + "*2", 0);
        value(most + "*2", -2);
        value(most + "+" + most, -2);
        value(most + "+2+" + most, 0);
        value(most + "*" + most, 1);
        value("0-" + most + "-1=" + least, 1);
        value("9999*9999*43-4172*1000-747", 0);
    }

    /** Terms 1: "of or, and, not, <, = 1 or 0 (what is not 0 is true)". */
    private static void truth() {
        int[] is = {0, 1, -1, 2, 9};
        for (int a : is) {
            for (int b : is) {
                value(a + " or " + b, a != 0 || b != 0 ? 1 : 0);
                value(a + " and " + b, a != 0 && b != 0 ? 1 : 0);
                value(a + "<" + b, a < b ? 1 : 0);
                value(a + "=" + b, a == b ? 1 : 0);
            }
            value("not " + a, a == 0 ? 1 : 0);
        }
        value("8192*8192*32 and 1", 1);
        value("not(8192*8192*32)", 0);
        value("8192*8192*64 or 0", 0);
    }

    /** Terms 1: "how bad that is for the WALL (0 .. 999, else the bound)". */
    private static void boundsOfSpoils() {
        String[] es = {"0", "1", "998", "999", "1000", "9999", "-1", "0 - 9999", "9999 * 9999 * 22", "8192 * 8192 * 32 - 1"};
        int[] due = {0, 1, 998, 999, 999, 999, 0, 0, 0, 999};
        for (int i = 0; i < es.length; i++) {
            BeforeItGoes x = Check.ruled("ripens 9;takes 1;spoils " + es[i] + ";");
            x.wall(0, 0, 1);
            x.set(5, 0, 1);
            check.due("P8 it is OFF", x.day(40), -1);
            check.due("P8 spoils " + es[i], x.day(0), due[i]);
            // each WALL by itself: of six all together
            for (int wall = 1; wall < 6; wall++) {
                x.wall(0, 0, 1);
            }
            check.due("P8 spoils " + es[i] + ", six are OFF", x.day(0), 6 * due[i]);
        }
    }

    /** Terms 1: "ripens (off 0)", "takes (off 0)", though the day ahead had one that was OFF. */
    private static void offIsNone() {
        BeforeItGoes x = Check.ruled("ripens 9 + off * 5;takes 2 + off;spoils 7;");
        x.wall(0, 0, 3);
        x.set(5, 0, 4);
        for (int round = 0; round < 2; round++) {
            check.due("P4 RIPENS by off 0", x.told(0, 4), 9);
            check.due("P4 TAKES by off 0", x.told(0, 6), 6);
            check.due("P8 it is OFF", x.day(40), -4);
            check.due("P8 RIPE all the same", x.day(20), 15);
        }
    }

    /** Promise 7: "which was. BAD." */
    private static void forced() {
        BeforeItGoes x = new BeforeItGoes();
        check.due("P7 force(0)", x.force(0), 0);
        for (int texts = 1; texts <= 6; texts++) {
            for (int text : new int[] {-1, texts, 6, FAR, DEEP}) {
                check.due("P7 of " + texts + ": force(" + text + ")", x.force(text), BAD);
                check.due("P7 THE RULE stays", x.count(9), texts - 1);
            }
            check.due("P7 the last of " + texts, x.force(texts - 1), texts - 1);
            if (texts < 6) {
                check.due("P6 TEXT " + texts, Check.learn(x, WHOLE), texts);
                check.due("P7 it is none till then", x.count(9), texts - 1);
                check.due("P7 the new one", x.force(texts), texts - 1);
            }
        }
    }
}
