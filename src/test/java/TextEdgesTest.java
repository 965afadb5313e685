/**
 * The wall and the text that tells it, sentence by sentence: W, H, COURSES, COLUMNS, HEARTHS, NEED; 300 bytes; blanks;
 * ITEMS; TOKENS; FAULT and its cases. In a text told here ^ stands ahead of the byte that is the fault, and is no byte.
 */
public final class TextEdgesTest {
    private static final int BAD = -1;
    private static final String[] ITEMS = {"size 5 5;", "beam 1 0 2;", "cold 3 4;", "hearth 0 0 7;"};

    private TextEdgesTest() {
    }

    public static void main(String[] args) {
        sizes();
        sizeIsTenAtFirst();
        sizeIsTheFirstItem();
        coursesOfHearths();
        columnsOfHearths();
        needs();
        threeHearthsAtMost();
        beams();
        colds();
        threeHundredBytes();
        noItems();
        blanks();
        blanksAreThirtyTwo();
        bytesThatBeginNone();
        bytesBehindAWord();
        bytesBehindANumber();
        wordsThatAreNone();
        numbers();
        endsTooEarly();
        firstOfSeveralFaults();
        tokensOutOfPlace();
        aFaultChangesNothing();
        Due.finish("TextEdgesTest");
    }

    private static void due(String call, long got, long want) {
        Due.due(call, got, want);
    }

    private static int reads(String text) {
        FlueStack x = new FlueStack();
        Due.write(x, text);
        int bytes = x.count(4);
        int answer = x.wall();
        due("bytes behind <" + text + ">", x.count(4), answer < 0 ? bytes : 0);
        return answer;
    }

    private static void well(String text, int hearths) {
        due("wall of <" + text + ">", reads(text), hearths);
    }

    private static void fault(String marked) {
        due("fault of <" + marked + ">", reads(marked.replace("^", "")), -10 - marked.indexOf('^'));
    }

    private static String bytes(int number, char sign) {
        return String.valueOf(sign).repeat(number);
    }

    // ---- W 2 .. 10, H 2 .. 16, COLUMNS 0 .. W - 1, COURSES 0 .. H - 1

    private static void sizes() {
        for (int w = 2; w <= 10; w++) {
            for (int h = 2; h <= 16; h++) {
                FlueStack x = Due.told("size " + w + " " + h + ";");
                due("W", x.count(0), w);
                due("H", x.count(1), h);
                due("the first brick", x.brick(0, 0), 0);
                due("the last brick", x.brick(h - 1, w - 1), 0);
                due("a COLUMN more", x.brick(0, w), BAD);
                due("a COURSE more", x.brick(h, 0), BAD);
                due("a COLUMN less", x.brick(0, -1), BAD);
                due("a COURSE less", x.brick(-1, 0), BAD);
            }
        }
        for (int w = 0; w <= 101; w++) {
            if (w < 2 || w > 10) {
                fault("size ^" + w + " 5;");
            }
        }
        for (int h = 0; h <= 101; h++) {
            if (h < 2 || h > 16) {
                fault("size 5 ^" + h + ";");
            }
        }
        fault("size ^1 1;");
        fault("size ^11 17;");
        fault("size ^16 10;");
    }

    private static void sizeIsTenAtFirst() {
        FlueStack x = new FlueStack();
        due("W of a new one", x.count(0), 10);
        due("H of a new one", x.count(1), 10);
        due("the last brick of a new one", x.brick(9, 9), 0);
        due("no COLUMN 10", x.brick(9, 10), BAD);
        due("no COURSE 10", x.brick(10, 9), BAD);
        well("beam 9 9 9;cold 9 9;hearth 8 9 0;", 1);
        fault("beam ^10 9 9;");
        fault("cold 9 ^10;");
        fault("hearth ^9 9 0;");
        for (String before : new String[] {"size 2 2;", "size 10 16;", "size 3 9;"}) {
            x = Due.told(before + "hearth 0 0 0;");
            Due.tell(x, "cold 9 9;");
            due("W of a text without size, after " + before, x.count(0), 10);
            due("H of a text without size, after " + before, x.count(1), 10);
        }
    }

    private static void sizeIsTheFirstItem() {
        well("size 3 3;", 0);
        well("   size 3 3;cold 0 0;", 0);
        fault("size 3 3;^size 3 3;");
        fault("size 3 3; ^size");
        fault("beam 0 0 0;^size 10 10;");
        fault("cold 0 0;  ^size 10 10;");
        fault("hearth 0 0 0;^size 10 10;");
        fault("size 3 3;cold 0 0;^size 3 3;");
        // what it tells goes for all that follow
        fault("size 3 4;beam ^4 0 0;");
        fault("size 3 4;beam 3 ^3 3;");
        fault("size 3 4;cold 0 ^3;");
        fault("size 3 4;hearth ^3 0 0;");
        well("size 10 16;beam 15 9 9;cold 9 9;hearth 14 9 99;", 1);
        well("size 2 2;beam 1 1 1;cold 1 1;hearth 0 1 0;", 1);
    }

    // ---- HEARTHS: a COURSE (0 .. H - 2), a COLUMN, NEED (0 .. 99), three at most

    private static void coursesOfHearths() {
        for (int h = 2; h <= 16; h++) {
            String size = "size 2 " + h + ";";
            FlueStack x = Due.told(size + "hearth 0 0 0;hearth " + (h - 2) + " 1 0;");
            due("the first COURSE", x.hearth(0, 0), 0);
            due("the last COURSE but one", x.hearth(1, 0), h - 2);
            due("one step up", x.many(1), 2);
            fault(size + "hearth ^" + (h - 1) + " 1 0;");
            fault(size + "hearth ^" + h + " 1 0;");
        }
    }

    private static void columnsOfHearths() {
        for (int w = 2; w <= 10; w++) {
            String size = "size " + w + " 3;";
            FlueStack x = Due.told(size + "hearth 0 0 0;hearth 1 " + (w - 1) + " 0;");
            due("the first COLUMN", x.hearth(0, 1), 0);
            due("the last COLUMN", x.hearth(1, 1), w - 1);
            fault(size + "hearth 0 ^" + w + " 0;");
            fault(size + "hearth 1 ^" + (w + 1) + " 0;");
        }
    }

    private static void needs() {
        for (int need = 0; need <= 99; need++) {
            due("NEED", Due.told("hearth 0 0 " + need + ";").hearth(0, 2), need);
        }
        for (int need = 100; need <= 310; need++) {
            fault("hearth 0 0 ^" + need + ";");
        }
    }

    private static void threeHearthsAtMost() {
        String hearth = "hearth 0 0 0;";
        for (int hearths = 0; hearths <= 3; hearths++) {
            well(hearth.repeat(hearths), hearths);
            due("HEARTHS", Due.told(hearth.repeat(hearths) + "cold 0 0;").count(2), hearths);
        }
        fault(hearth.repeat(3) + "^" + hearth);
        fault(hearth.repeat(3) + "^hearth");
        fault(hearth.repeat(3) + "  ^hearth 0");
        fault(hearth.repeat(3) + "beam 0 0 0;^hearth 99 99 99;");
        well(hearth.repeat(3) + "beam 0 0 0;cold 0 0;", 3);
        // one that can't be read is none: a fault ahead of it counts
        fault("hearth 0 0 0;hearth ^9 0 0;hearth 0 0 0;hearth 0 0 0;");
    }

    // ---- beam R C D, cold C D

    private static void beams() {
        for (int c = 0; c <= 9; c++) {
            for (int d = 0; d <= 9; d++) {
                String beam = "beam 4 " + c + " ";
                if (d < c) {
                    fault(beam + "^" + d + ";");
                    continue;
                }
                FlueStack x = Due.told(beam + d + ";");
                due("bricks that are barred", x.count(5), d - c + 1);
                for (int column = 0; column <= 9; column++) {
                    due("barred from " + c + " to " + d, x.brick(4, column), column >= c && column <= d ? 1 : 0);
                }
            }
            fault("beam 4 " + c + " ^10;");
        }
        for (int h = 2; h <= 16; h++) {
            String size = "size 4 " + h + ";";
            due("the last COURSE", Due.told(size + "beam " + (h - 1) + " 0 3;").brick(h - 1, 3), 1);
            due("and no other", Due.told(size + "beam " + (h - 1) + " 0 3;").count(5), 4);
            due("the first COURSE", Due.told(size + "beam 0 0 3;").brick(0, 3), 1);
            fault(size + "beam ^" + h + " 0 3;");
        }
        StringBuilder all = new StringBuilder("size 10 16;");
        for (int r = 0; r < 16; r++) {
            all.append("beam ").append(r).append(" 0 9;");
        }
        due("all is barred", Due.told(all.toString()).count(5), 160);
        due("no brick twice", Due.told("beam 3 2 5;beam 3 4 6;beam 3 2 5;").count(5), 5);
        due("a beam on a hearth is no fault", Due.told("beam 0 0 0;hearth 0 0 0;beam 0 0 9;").count(2), 1);
    }

    private static void colds() {
        for (int c = 0; c <= 9; c++) {
            for (int d = 0; d <= 9; d++) {
                if (d < c) {
                    fault("cold " + c + " ^" + d + ";");
                    continue;
                }
                FlueStack x = Due.told("cold " + c + " " + d + ";");
                due("COLD bars nothing", x.count(5), 0);
                for (int column = 0; column <= 9; column++) {
                    int due = column >= c && column <= d ? 2 : 0;
                    due("COLD below", x.brick(0, column), due);
                    due("COLD above", x.brick(9, column), due);
                }
            }
        }
        for (int w = 2; w <= 10; w++) {
            due("the last COLUMN", Due.told("size " + w + " 2;cold " + (w - 1) + " " + (w - 1) + ";").brick(1, w - 1), 2);
            fault("size " + w + " 2;cold ^" + w + " " + w + ";");
            fault("size " + w + " 2;cold 0 ^" + w + ";");
        }
        FlueStack x = Due.told("cold 0 1;cold 8 9;cold 1 1;");
        due("two COLD sides, and a warm middle", x.brick(5, 1) + x.brick(5, 8) + x.brick(5, 4), 4);
    }

    // ---- 300 bytes at most, no items

    private static void threeHundredBytes() {
        String items = "size 2 2;" + "cold 0 0;".repeat(31);
        well(items + bytes(12, ' '), 0);
        well(items + "hearth 0 1 9", -10 - 300);
        well(items + "cold 0 1;  ;", -10 - 299);
        well("size 2 2;" + "cold 0 0;".repeat(30) + "        hearth 0 1 9;", 1);
        well(bytes(300, ' '), 0);
        well(bytes(299, ' ') + "x", -10 - 299);
        well(bytes(299, ' ') + "5", -10 - 299);
        well(bytes(299, ' ') + ";", -10 - 299);
        well(bytes(296, ' ') + "size", -10 - 300);
        well("cold" + bytes(296, ' '), -10 - 300);
        well(bytes(300, ';'), -10);
        well(bytes(300, 'a'), -10);
        well(bytes(300, '0'), -10);
        well("cold" + bytes(296, '9'), -10 - 4);
        well(bytes(300, (char) 255), -10);
        // a wall of 300 bytes, and what came when it was full is not of it
        FlueStack x = new FlueStack();
        Due.write(x, bytes(290, ' ') + "cold 7 7; ");
        due("300", x.count(4), 300);
        due("one more", x.type('z', 1), -3);
        due("it is read", x.wall(), 0);
        due("to its end", x.brick(0, 7), 2);
    }

    private static void noItems() {
        well("", 0);
        well(" ", 0);
        FlueStack x = Due.told("size 4 4;beam 0 0 3;cold 0 3;hearth 0 0 9;");
        due("no items: no HEARTHS", x.wall(), 0);
        due("no items: W", x.count(0), 10);
        due("no items: nothing is barred", x.count(5), 0);
        due("no items: nothing is COLD", x.brick(0, 0), 0);
        due("no items: no HEARTH", x.hearth(0, 0), BAD);
        well("size 4 4;", 0);
        well("cold 0 0;", 0);
        well("beam 0 0 0;", 0);
        well("hearth 0 0 0;", 1);
        fault("^;");
        fault("size 4 4;^;");
    }

    // ---- blanks

    private static void blanks() {
        for (int n = 0; n <= 3; n++) {
            String b = bytes(n, ' ');
            String text = b + "size" + b + "5 " + b + "5" + b + ";" + b + "beam" + b + "1 " + b + "0 " + b + "2" + b + ";" + b
                    + "cold" + b + "3 " + b + "4" + b + ";" + b + "hearth" + b + "0 " + b + "1 " + b + "7" + b + ";" + b;
            FlueStack x = Due.told(text);
            due("blanks, W", x.count(0), 5);
            due("blanks, barred", x.count(5), 3);
            due("blanks, COLD", x.brick(0, 4), 2);
            due("blanks, HEARTH", x.hearth(0, 1), 1);
        }
        // between two numbers one is needed, and within a token none may be
        fault("size ^55;");
        fault("size 5 ^55;");
        fault("size ^1 0 5;");
        fault("^si ze 5 5;");
        fault("hearth 0 0 1 ^1;");
        well("hearth 0 0 11;", 1);
    }

    private static void blanksAreThirtyTwo() {
        for (int b = 0; b <= 255; b++) {
            String sign = String.valueOf((char) b);
            if (b == ' ') {
                well("size" + sign + "5" + sign + "5;" + sign, 0);
            } else {
                due("byte " + b + " ahead", reads(sign + "size 5 5;") < 0 ? 1 : 0, 1);
                due("byte " + b + " between", reads("size 5" + sign + "5;") < 0 ? 1 : 0, 1);
                due("byte " + b + " behind", reads("size 5 5;" + sign), -10 - 9);
            }
        }
    }

    // ---- TOKENS: words of letters a .. z, NUMBERS and ;

    private static void bytesThatBeginNone() {
        for (int b = 0; b <= 255; b++) {
            String sign = String.valueOf((char) b);
            if (b != ' ') {
                // a letter alone is no item, and a number or ; can't be the first
                due("byte " + b + " alone", reads(sign), -10);
                due("byte " + b + " behind blanks", reads("   " + sign + " 5 5;"), -13);
            }
        }
        for (char next : new char[] {31, 33, '/', ':', '<', '@', 'A', 'Z', '[', '`', '{', 127, 128, 160, 187, 255}) {
            fault("size ^" + next + "5 5;");
            fault("size 5 ^" + next + "5;");
            fault("size 5 5^" + next + ";");
            fault("cold 0 0;^" + next);
        }
    }

    private static void bytesBehindAWord() {
        for (int b = 0; b <= 255; b++) {
            String sign = String.valueOf((char) b);
            int due = -10 - 4;
            if (b == ' ') {
                due = 0;
            } else if (b >= 'a' && b <= 'z') {
                due = -10;
            }
            // of digits 0 stands ahead of another one, and all the others make a W above 10
            due("size, then byte " + b, reads("size" + sign + "5 5;"), due);
        }
        well("size5 5;", 0);
        well("size2 2;beam1 1 1;cold1 1;hearth0 1 1;", 1);
    }

    private static void bytesBehindANumber() {
        for (int b = 0; b <= 255; b++) {
            String sign = String.valueOf((char) b);
            // a ; ends the item, and the one that follows is then the fault
            int due = b == ';' ? -10 - 9 : -10 - 8;
            if (b == ' ') {
                due = 0;
            } else if (b >= '0' && b <= '9') {
                due = -10 - 7;
            }
            due("size 5 5, then byte " + b, reads("size 5 5" + sign + ";"), due);
        }
        fault("size 5 5^size;");
        fault("size 5 ^cold 5;");
        fault("size 5 5^x");
    }

    private static void wordsThatAreNone() {
        for (String item : ITEMS) {
            String word = item.substring(0, item.indexOf(' ')), rest = item.substring(item.indexOf(' '));
            for (int i = 0; i < word.length(); i++) {
                for (char letter = 'a'; letter <= 'z'; letter++) {
                    if (word.charAt(i) != letter) {
                        fault("^" + word.substring(0, i) + letter + word.substring(i + 1) + rest);
                    }
                }
                fault("^" + word.substring(0, i) + word.substring(i + 1) + rest);
                String upper = word.substring(i, i + 1).toUpperCase();
                // the word ends ahead of it, and is none; or nothing is ahead of it, and it begins none
                fault("^" + word.substring(0, i) + upper + word.substring(i + 1) + rest);
            }
            for (char letter = 'a'; letter <= 'z'; letter++) {
                fault("^" + word + letter + rest);
                fault("^" + letter + word + rest);
            }
            fault("^" + word + word + rest);
            fault("cold 0 0;^" + word + "s" + rest);
        }
        fault("size 5 5;^" + bytes(280, 'z'));
    }

    private static void numbers() {
        for (int n = 0; n <= 9; n++) {
            due("a single digit", Due.told("hearth 0 0 " + n + ";").hearth(0, 2), n);
            fault("hearth 0 0 ^0" + n + ";");
            fault("hearth 0 0 ^00" + n + ";");
            fault("hearth 0 ^0" + n + " 0;");
            fault("hearth ^0" + n + " 0 0;");
            fault("beam 0 0 ^0" + n + ";");
            fault("cold ^0" + n + " 9;");
            fault("size ^0" + n + " 5;");
            fault("size 5 ^0" + n + ";");
        }
        well("hearth 0 0 99;", 1);
        fault("hearth 0 0 ^099;");
        fault("hearth 0 0 ^100;");
        fault("hearth 0 0 ^999;");
        // none wraps around into one that would be well
        for (String large : new String[] {"256", "261", "65536", "65541", "2147483647", "2147483648", "4294967295",
            "4294967296", "4294967301", "9223372036854775807", "9223372036854775808", "18446744073709551616",
            "18446744073709551621", "340282366920938463463374607431768211461", "1" + bytes(200, '0'), bytes(280, '9')}) {
            fault("hearth 0 0 ^" + large + ";");
            fault("size ^" + large + ";");
            fault("cold ^" + large);
        }
        fault("hearth 0 0 ^-1;");
        fault("hearth 0 0 ^+1;");
        fault("hearth 0 0 1^.0;");
        // one above 99 or with a 0 ahead stands nowhere, where no number is due, too
        fault("^100 size;");
        fault("^07;");
        fault("size 5 5 ^100;");
        fault("size 5 5 ^05;");
        fault("size 5 5;^100");
    }

    // ---- FAULT

    private static void endsTooEarly() {
        StringBuilder whole = new StringBuilder();
        for (String item : ITEMS) {
            whole.append(item);
        }
        String text = whole.toString();
        for (int length = 0; length <= text.length(); length++) {
            String cut = text.substring(0, length);
            int due = faultOfCut(text, length);
            for (int blanks = 0; blanks <= 2; blanks++) {
                int hearths = length == text.length() ? 1 : 0;
                int place = due == length ? length + blanks : due;
                due("cut at " + length + ", blanks " + blanks, reads(cut + bytes(blanks, ' ')),
                        due < 0 ? hearths : -10 - place);
            }
        }
        // what was read before is not there any more: each cut is read behind the whole
        for (int length = 0; length <= text.length(); length++) {
            FlueStack x = Due.told(text);
            Due.write(x, text.substring(0, length));
            int due = faultOfCut(text, length);
            due("cut at " + length + ", behind the whole", x.wall(),
                    due >= 0 ? -10 - due : length == text.length() ? 1 : 0);
        }
        fault("size 10 16^");
        fault("size 10 16    ^");
        fault("hearth 8 9 99^");
        fault("hearth^");
        fault("   hearth   ^");
    }

    /** -1 behind an item, the word's place within one, else the length. */
    private static int faultOfCut(String text, int length) {
        if (length == 0 || text.charAt(length - 1) == ';') {
            return -1;
        }
        int begin = length;
        while (begin > 0 && Character.isLetter(text.charAt(begin - 1))) {
            begin--;
        }
        boolean within = begin < length && Character.isLetter(text.charAt(length));
        return within ? begin : length;
    }

    private static void firstOfSeveralFaults() {
        fault("size ^1 17;size 5 5;x");
        fault("size 5 ^17 5;");
        fault("beam ^10 10 9;");
        fault("beam 9 ^10 9;");
        fault("beam 9 9 ^8 7");
        fault("cold 5 ^4 3;");
        fault("hearth ^9 10 100;");
        fault("hearth 8 ^10 100;");
        fault("hearth 8 9 ^100 x");
        fault("hearth 8 9 99 ^x");
        fault("cold 0 0;^x;hearth 9 0 0;");
        fault("cold 0 ^x 007;");
        fault("cold ^007 x;");
        // each token alone could stand, and ends where another one would
        fault("cold 0^;");
        fault("cold^;");
        fault("beam 1 1^;");
        fault("hearth 1 1^;");
        fault("size 5^;");
    }

    private static void tokensOutOfPlace() {
        fault("^5 5;");
        fault("size ^size 5 5;");
        fault("size 5 ^beam;");
        fault("size 5 5 ^5;");
        fault("size 5 5 ^beam 0 0 0;");
        fault("size 5 5;^5;");
        fault("beam 1 1 1 ^1;");
        fault("cold 1 1 ^1;");
        fault("hearth 1 1 1 ^1;");
        fault("cold ^;1 1;");
        fault("cold 1 ^;1;");
        fault("cold 1 1;^;");
    }

    private static void aFaultChangesNothing() {
        String before = "size 6 5;beam 3 3 3;cold 0 1;hearth 0 1 9;hearth 1 3 20;";
        for (String after : new String[] {"size 3 3;beam 0 0 2;cold 0 2;hearth 0 0 0;hearth 0 0 0;hearth 0 0 0;x", "x",
            "size 1 1;", "size 4 17;", "hearth 0 0 0;cold 1 0;", "cold 0 9;beam 0 0"}) {
            FlueStack x = Due.told(before), y = Due.told(before);
            x.turn(0, 2, 1);
            y.turn(0, 2, 1);
            x.mark(2, 2);
            y.mark(2, 2);
            x.keep(1);
            y.keep(1);
            x.wind(2, 2, 2);
            y.wind(2, 2, 2);
            Due.write(x, after);
            due("a fault", x.wall() < -9 ? 1 : 0, 1);
            due("the text stays", x.clear(), after.length());
            Due.due("a fault changes nothing", Whole.of(x), Whole.of(y));
        }
    }
}
