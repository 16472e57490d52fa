/** THE TEXT at its edges: bytes, blanks, TOKENS, NUMBERS, how much of each ITEM there may be, and where a FAULT is. */
final class TextEdgesTest {
    private static final int BAD = -1, FULL = -3;
    private static final String BLANKS = " ".repeat(200);
    private static final String[] COUNTS = {"", "place 1;", "place 1;place 1;", "place 1;place 1;place 1;",
        "place 1;place 1;place 1;place 1;", "place 1;place 1;place 1;place 1;place 1;",
        "place 1;place 1;place 1;place 1;place 1;place 1;"};

    private TextEdgesTest() {
    }

    public static void main(String[] args) {
        typeCounts();
        typeTakesTheLowestBytes();
        typeToTheLastByte();
        aTextOfAllItsBytes();
        clearAtItsEdges();
        eachByteAsAToken();
        eachByteWithinAToken();
        itemsNone();
        blanksAsMayBe();
        allThatMayBe();
        hardFrom1To9();
        minutesFrom0To30();
        placesOfAHabitThatWereTold();
        ringThatWasTold();
        lawFrom0To2();
        habitsOf1To5();
        placesAtMost6();
        seekersAtMost4();
        toldAgain();
        numbersAsTheyMayBe();
        wordsAsTheyMayBe();
        toldAheadOnly();
        eachTokenAtEachPlace();
        aTextThatEndsTooEarly();
        readOnBehindAFault();
        bytesBehindTheTextAreNotRead();
        Check.finish("TextEdgesTest");
    }

    private static void due(String call, long got, long want) {
        Check.due(call, got, want);
    }

    private static void items(String text, int want) {
        due("items of '" + text + "'", Check.read(text), want);
    }

    private static void fault(String text, int place) {
        due("fault of '" + text + "'", Check.read(text), -10 - place);
    }

    // ---- bytes

    private static void typeCounts() {
        for (int n = -1; n <= 10; n++) {
            boolean may = n >= 1 && n <= 8;
            FindersHide x = new FindersHide();
            due("type(0, " + n + ")", x.type(0L, n), may ? n : BAD);
            due("bytes", x.count(3), may ? n : 0);
        }
    }

    /** What of v is above the lowest n bytes does not come to the text. */
    private static void typeTakesTheLowestBytes() {
        String text = "place 7;";
        for (int n = 1; n <= 8; n++) {
            FindersHide x = new FindersHide();
            for (int i = 0; i < 8 - n; i++) {
                x.type(0xffffffffffffff00L | text.charAt(i), 1);
            }
            long v = -1L;
            for (int i = 8 - n; i < 8; i++) {
                v = v << 8 | text.charAt(i);
            }
            due("type(.., " + n + ")", x.type(v, n), 8);
            due("town()", x.town(), 1);
            due("hard", x.place(0, 0), 7);
        }
    }

    private static FindersHide withBytes(int many) {
        FindersHide x = new FindersHide();
        Check.type(x, BLANKS.substring(0, many));
        due("bytes", x.count(3), many);
        return x;
    }

    private static void typeToTheLastByte() {
        for (int n = 1; n <= 8; n++) {
            due("just fits: " + n, withBytes(200 - n).type(0x2020202020202020L, n), 200);
            due("one byte too many: " + n, withBytes(201 - n).type(0x2020202020202020L, n), FULL);
            FindersHide x = withBytes(201 - n);
            x.type(0L, n);
            if (n > 1) {
                due("fewer fit all the same: " + n, x.type(0x2020202020202020L, n - 1), 200);
            }
            due("nothing came of what did not fit", x.town(), 0);
        }
        due("none fits into 200", withBytes(200).type(0x20L, 1), FULL);
    }

    private static void aTextOfAllItsBytes() {
        items(BLANKS.substring(6) + "law 2;", 1);
        items("law 2;" + BLANKS.substring(6), 1);
        items("law" + BLANKS.substring(5) + "2;", 1);
        fault(BLANKS.substring(1) + ";", 199);
        fault(BLANKS.substring(3) + "law", 200);
        fault("law" + BLANKS.substring(3), 200);
        fault(BLANKS.substring(1) + "l", 199);
        items(BLANKS, 0);
        FindersHide x = withBytes(200);
        due("read", x.town(), 0);
        due("then all 200 fit again", x.count(3), 0);
        Check.type(x, BLANKS.substring(1) + "x");
        due("a fault at the last byte", x.town(), -209);
        due("the text stays full", x.type(0x20L, 1), FULL);
    }

    private static void clearAtItsEdges() {
        due("nothing", new FindersHide().clear(), 0);
        due("one", withBytes(1).clear(), 1);
        FindersHide x = withBytes(200);
        due("all", x.clear(), 200);
        due("none is left", x.count(3), 0);
        due("nothing again", x.clear(), 0);
        Check.type(x, "place 4;" + BLANKS.substring(8));
        due("all 200 again", x.count(3), 200);
        due("what was cleared is not read", x.town(), 1);
        FindersHide y = Check.told("place 4;seeker 5 0;law 1;");
        y.week();
        Check.type(y, "place 3;");
        due("clear", y.clear(), 8);
        due("clear leaves what was told", y.place(0, 0), 4);
        due("and the week", y.now(1), 1);
        due("and the law", y.now(2), 1);
    }

    private static String sign(int b) {
        return String.valueOf((char) b);
    }

    private static boolean isLetter(int b) {
        return b >= 97 && b <= 122;
    }

    /** All 256 bytes, where a token begins. */
    private static void eachByteAsAToken() {
        for (int b = 0; b < 256; b++) {
            boolean blank = b == 32;
            due("byte " + b + " alone", Check.read(sign(b)), blank ? 0 : -10);
            due("byte " + b + " ahead", Check.read(sign(b) + "law 2;"), blank ? 1 : -10);
            due("byte " + b + " behind", Check.read("place 1;" + sign(b)), blank ? 1 : -18);
            boolean hard = b >= '1' && b <= '9';
            due("byte " + b + " as a number", Check.read("place " + sign(b) + ";"), hard ? 1 : blank ? -17 : -16);
            boolean told = b == '0' || b == '1';
            due("byte " + b + " as a place", Check.read("place 1;place 1;seeker 1 " + sign(b) + ";"),
                told ? 3 : blank ? -36 : -35);
        }
    }

    /** All 256 bytes, where a token may end or go on. */
    private static void eachByteWithinAToken() {
        for (int b = 0; b < 256; b++) {
            boolean blank = b == 32;
            boolean digit = b >= '0' && b <= '9';
            int behind = blank ? 1 : b == ';' ? -18 : digit ? -16 : -17;
            due("byte " + b + " behind a number", Check.read("place 1" + sign(b) + ";"), behind);
            due("byte " + b + " behind a word", Check.read("law" + sign(b) + "2;"), blank ? 1 : isLetter(b) ? -10 : -13);
            due("byte " + b + " within a word", Check.read("l" + sign(b) + "w 2;"), b == 'a' ? 1 : -10);
        }
    }

    // ---- blanks and items

    private static void itemsNone() {
        items("", 0);
        items(" ", 0);
        items("        ", 0);
        FindersHide x = Check.told("place 4;seeker 5 0;law 1;");
        due("none told", x.town(), 0);
        due("no places", x.count(0), 0);
        due("no seekers", x.count(1), 0);
        due("law at first", x.now(2), 0);
        due("nowhere", x.now(0), -9);
        items("law 0;", 1);
        items("place 1;", 1);
    }

    private static void blanksAsMayBe() {
        String[] texts = {"place3;place9;seeker8 0 1;ring1;law2;", "place 3;place 9;seeker 8 0 1;ring 1;law 2;",
            "   place   3   ;   place   9   ;   seeker   8   0   1   ;   ring   1   ;   law   2   ;   "};
        for (String text : texts) {
            items(text, 5);
            FindersHide x = Check.told(text);
            due("hard", x.place(1, 0), 9);
            due("minutes", x.seeker(0, 0), 8);
            due("habit", x.habit(0, 1), 1);
            due("ring", x.now(0), 1);
            due("law", x.now(2), 2);
        }
        // A blank ends a token: here one would have to go on.
        fault("pla ce 3;", 0);
        fault("place 1;seeker 1 0 ring;", 19);
        fault("place 1 0;", 8);
        // Without one, two numbers are one.
        fault("place 1;seeker 10;", 17);
        fault("place 1;seeker 1 00;", 17);
    }

    private static void allThatMayBe() {
        String text = "place1;place2;place3;place4;place5;place9;seeker30 5 4 3 2 1;seeker0 0 0 0 0 0;"
            + "seeker1 5 5 5 5 5;seeker 29 0 1 2 3 4;ring5;law2;";
        items(text, 12);
        FindersHide x = Check.told(text);
        int[] hard = {1, 2, 3, 4, 5, 9};
        for (int p = 0; p < 6; p++) {
            due("hard", x.place(p, 0), hard[p]);
        }
        int[] minutes = {30, 0, 1, 29};
        int[][] habits = {{5, 4, 3, 2, 1}, {0, 0, 0, 0, 0}, {5, 5, 5, 5, 5}, {0, 1, 2, 3, 4}};
        for (int k = 0; k < 4; k++) {
            due("minutes", x.seeker(k, 0), minutes[k]);
            due("length", x.seeker(k, 1), 5);
            for (int i = 0; i < 5; i++) {
                due("habit(" + k + ", " + i + ")", x.habit(k, i), habits[k][i]);
            }
            due("no sixth", x.habit(k, 5), -5);
        }
        due("ring", x.now(0), 5);
        due("law", x.now(2), 2);
    }

    // ---- numbers, each with all that are just within and just beyond

    private static void hardFrom1To9() {
        for (int h = 0; h <= 120; h++) {
            due("place " + h, Check.read("place " + h + ";"), h >= 1 && h <= 9 ? 1 : -16);
        }
        for (int h = 1; h <= 9; h++) {
            due("hard", Check.told("place " + h + ";").place(0, 0), h);
        }
    }

    private static void minutesFrom0To30() {
        for (int m = 0; m <= 120; m++) {
            due("seeker " + m, Check.read("place 1;seeker " + m + " 0;"), m <= 30 ? 2 : -25);
        }
        for (int m = 0; m <= 30; m++) {
            due("minutes", Check.told("place 1;seeker " + m + " 0;").seeker(0, 0), m);
        }
    }

    private static void placesOfAHabitThatWereTold() {
        for (int places = 1; places <= 6; places++) {
            for (int p = 0; p <= 120; p++) {
                String front = COUNTS[places] + "seeker 1 ";
                due(places + " places, first " + p, Check.read(front + p + ";"), p < places ? places + 1 : -10 - front.length());
                front += "0 0 0 0 ";
                due(places + " places, fifth " + p, Check.read(front + p + ";"), p < places ? places + 1 : -10 - front.length());
            }
        }
    }

    private static void ringThatWasTold() {
        for (int places = 0; places <= 6; places++) {
            for (int p = 0; p <= 120; p++) {
                String front = COUNTS[places] + "ring ";
                due(places + " places, ring " + p, Check.read(front + p + ";"), p < places ? places + 1 : -10 - front.length());
            }
        }
        for (int p = 0; p < 6; p++) {
            due("ring", Check.told(COUNTS[6] + "ring " + p + ";").now(0), p);
        }
        due("not told: place 0", Check.told(COUNTS[6]).now(0), 0);
        due("not told: place 0", Check.told(COUNTS[1]).now(0), 0);
        due("none: nowhere", Check.told("law 1;").now(0), -9);
    }

    private static void lawFrom0To2() {
        for (int k = 0; k <= 120; k++) {
            due("law " + k, Check.read("law " + k + ";"), k <= 2 ? 1 : -14);
        }
        for (int k = 0; k <= 2; k++) {
            due("law", Check.told("law " + k + ";").now(2), k);
        }
        due("not told", Check.told("place 1;").now(2), 0);
    }

    private static void habitsOf1To5() {
        String front = "place 1;place 1;seeker 1";
        int[] want = {-34, 3, 3, 3, 3, 3, -45, -45, -45};
        for (int n = 0; n < want.length; n++) {
            due("habit of " + n, Check.read(front + " 1".repeat(n) + ";"), want[n]);
        }
        for (int n = 1; n <= 5; n++) {
            due("habit of " + n, Check.told(front + " 1".repeat(n) + ";").seeker(0, 1), n);
        }
        // The sixth can't stand there, whatever it is; and behind the fifth the text may end too early.
        String five = front + " 1 0 1 0 1 ";
        for (String sixth : new String[] {"0", "2", "99", "100", "00", "place", "zz", "?", "0 0 0"}) {
            fault(five + sixth + ";", five.length());
        }
        fault(five, five.length());
        fault(five + "1", five.length());
        fault(front, front.length());
    }

    // ---- how many items

    private static void placesAtMost6() {
        for (int n = 0; n <= 6; n++) {
            items(COUNTS[n], n);
            due("places", Check.told(COUNTS[n]).count(0), n);
        }
        for (String seventh : new String[] {"place 1;", "place", "place 0;", "place ;", "place1;seeker 1 0;"}) {
            fault(COUNTS[6] + seventh, 48);
            fault(COUNTS[6] + "law 1;  " + seventh, 56);
        }
        items(COUNTS[6] + "seeker 1 5;", 7);
    }

    private static void seekersAtMost4() {
        String text = "place 1;";
        for (int n = 0; n <= 4; n++) {
            items(text, 1 + n);
            due("seekers", Check.told(text).count(1), n);
            text += "seeker 1 0;";
        }
        String four = "place 1;seeker 1 0;seeker 1 0;seeker 1 0;seeker 1 0;";
        for (String fifth : new String[] {"seeker 1 0;", "seeker", "seeker 31 0;", "seeker 1 1;", "seeker;"}) {
            fault(four + fifth, 52);
            fault(four + "place 2;" + fifth, 60);
        }
    }

    private static void toldAgain() {
        fault("place 1;ring 0;ring 0;", 15);
        fault("place 1;ring 0;place 1;  ring 1;", 25);
        fault("place 1;ring 0;ring", 15);
        fault("place 1;ring 0;ring 7;", 15);
        fault("place 1;ring 0;law 1;ring 0;", 21);
        fault("law 0;law 0;", 6);
        fault("law 0;law", 6);
        fault("law 0;law 3;", 6);
        fault("law 2;place 1;ring 0;law 2;", 21);
        items("place 1;seeker 1 0;place 1;seeker 1 1;ring 1;place 1;law 1;seeker 0 2;", 8);
    }

    // ---- tokens

    private static void numbersAsTheyMayBe() {
        String[] wrong = {"00", "01", "09", "000", "007", "010", "099", "100", "101", "999", "1000", "0000000001", "256", "257",
            "65537", "2147483648", "4294967296", "4294967297", "18446744073709551617", "1" + "0".repeat(180), "0".repeat(181)};
        for (String number : wrong) {
            fault("place " + number + ";", 6);
            fault("place 1;seeker " + number + " 0;", 15);
            fault("place 1;place 1;seeker 1 " + (number.length() > 150 ? "00" : number) + ";", 25);
            fault("law " + number + ";", 4);
            fault("place " + number, 6);
        }
        items("place 1;seeker 0 0;ring 0;law 0;", 4);
        items("place 1;seeker 10 0;", 2);
        // No sign and no point belongs to a number.
        fault("place -1;", 6);
        fault("place +1;", 6);
        fault("place 1.0;", 7);
        fault("place 1e1;", 7);
        fault("1place 1;", 0);
    }

    private static void wordsAsTheyMayBe() {
        String[] wrong = {"p", "plac", "places", "placee", "xplace", "plbce", "seeke", "seekers", "aseeker", "seeler", "rin",
            "rings", "tring", "rang", "la", "laws", "flaw", "lax", "xlace", "xeeker", "xing", "xaw", "placering", "lawlaw",
            "ringring", "hider", "z", "a", "x".repeat(190), "place".repeat(38)};
        for (String word : wrong) {
            fault(word + " 1;", 0);
            fault("  " + word, 2);
        }
        for (String word : new String[] {"Place", "PLACE", "Seeker", "Ring", "Law", "LAW"}) {
            fault(word + " 1;", 0);
        }
        fault("placE 1;", 0);
        fault("laW 1;", 0);
        fault("place x;", 6);
        fault("place 1 x;", 8);
        fault("place 1x;", 7);
        fault("law1law2;", 4);
    }

    /** A PLACE that is told behind was not told. */
    private static void toldAheadOnly() {
        fault("ring 0;place 1;", 5);
        fault("place 1;ring 1;place 1;", 13);
        fault("seeker 1 0;place 1;", 9);
        fault("place 1;seeker 1 0 1;place 1;", 19);
        FindersHide x = Check.told("place 1;place 1;place 1;");
        Check.type(x, "place 1;ring 1;");
        due("nor was what an earlier text told", x.town(), -23);
    }

    private static final String[] TOKENS = {"place", "seeker", "ring", "law", "1", ";", "zz", "100", "!"};
    private static final String WORDS = "yyyynnnnn";
    private static final String NUMBER = "nnnnynnnn";
    private static final String END = "nnnnnynnn";
    private static final String EITHER = "nnnnyynnn";

    /** At each place of each item: the tokens that may stand there are read on, of all others it is the FAULT. */
    private static void eachTokenAtEachPlace() {
        String two = "place 1;place 1;";
        tokensAt("", 0, WORDS);
        tokensAt(two, 2, WORDS);
        tokensAt("place ", 0, NUMBER);
        tokensAt("place 1 ", 1, END);
        tokensAt(two + "seeker ", 0, NUMBER);
        tokensAt(two + "seeker 1 ", 0, NUMBER);
        tokensAt(two + "seeker 1 1 ", 3, EITHER);
        tokensAt(two + "seeker 1 1 1 ", 3, EITHER);
        tokensAt(two + "seeker 1 1 1 1 ", 3, EITHER);
        tokensAt(two + "seeker 1 1 1 1 1 ", 3, EITHER);
        tokensAt(two + "seeker 1 1 1 1 1 1 ", 3, END);
        tokensAt(two + "ring ", 0, NUMBER);
        tokensAt(two + "ring 1 ", 3, END);
        tokensAt("law ", 0, NUMBER);
        tokensAt("law 1 ", 1, END);
        tokensAt(two + "law 1;", 3, "yyynnnnnn");
        tokensAt(two + "ring 1;", 3, "yynynnnnn");
    }

    private static void tokensAt(String front, int itemsWithEnd, String may) {
        for (int t = 0; t < TOKENS.length; t++) {
            String text = front + TOKENS[t];
            if (may.charAt(t) == 'n') {
                fault(text, front.length());
                fault(front + "   " + TOKENS[t] + " 1;", front.length() + 3);
            } else if (TOKENS[t].equals(";")) {
                items(text, itemsWithEnd);
                items(text + "  ", itemsWithEnd);
            } else {
                fault(text, text.length());
                fault(text + "  ", text.length() + 2);
            }
        }
    }

    /** A text cut at each of its bytes. */
    private static void aTextThatEndsTooEarly() {
        String text = "place 2;seeker 3 0;ring 0;law 1;";
        int[][] words = {{0, 5}, {8, 14}, {19, 23}, {26, 29}};
        int told = 0;
        for (int cut = 0; cut <= text.length(); cut++) {
            boolean whole = cut == 0 || text.charAt(cut - 1) == ';';
            told += whole && cut > 0 ? 1 : 0;
            int want = whole ? told : -10 - cut;
            for (int[] word : words) {
                if (cut > word[0] && cut < word[1]) {
                    want = -10 - word[0];
                }
            }
            due("cut at " + cut, Check.read(text.substring(0, cut)), want);
        }
    }

    private static void readOnBehindAFault() {
        FindersHide x = new FindersHide();
        Check.type(x, "place 1;ring 0;law 2;seeker 4 0");
        due("no end", x.town(), -41);
        due("the same again", x.town(), -41);
        due("nothing is told", x.count(0), 0);
        x.type(0x3bL, 1);
        due("with its end", x.town(), 4);
        Check.type(x, "place 1;ring 0;law 2;ring 0;");
        due("ring twice", x.town(), -31);
        x.clear();
        Check.type(x, "place 8;ring 0;law 1;");
        due("each once: what the fault's text told does not count", x.town(), 3);
        due("law", x.now(2), 1);
        due("hard", x.place(0, 0), 8);
    }

    /** What a longer text had there before belongs to this one no more. */
    private static void bytesBehindTheTextAreNotRead() {
        String[] longer = {"place 12;", "place 1 ;", "place 1;;", "lawx 1;", "      ;", "      law 1;"};
        String[] shorter = {"place 1", "place 1", "place 1;", "law", "     ", "      "};
        int[] want = {-17, -17, 1, -13, 0, 0};
        for (int i = 0; i < longer.length; i++) {
            FindersHide x = new FindersHide();
            Check.type(x, longer[i]);
            x.clear();
            Check.type(x, shorter[i]);
            due("'" + shorter[i] + "' where '" + longer[i] + "' was cleared", x.town(), want[i]);
        }
        FindersHide x = Check.told("place 1;place 2;place 3;law 1;");
        Check.type(x, "place 9");
        due("behind a text that was read", x.town(), -17);
        x.type(0x3bL, 1);
        due("with its end", x.town(), 1);
        due("one place", x.count(0), 1);
    }
}
