/** The document's sentences on what is told, each at its edges: the ranges, the blanks, the items, FAULT. */
public final class TextEdgesTest {
    private static final Check check = new Check("TextEdgesTest");
    private static final String FULL_STEW = "d0 1 0 0;d0 1 0 0;d0 1 0 0;d0 1 0 0;d0 1 0 0;d0 1 0 0;";

    public static void main(String[] args) {
        heats();
        glues();
        rooms();
        weights();
        sizes();
        swells();
        seats();
        sixDumplings();
        letters();
        noneTold();
        blanksAnywhere();
        blanksBetweenNumbers();
        onlyBlanksAreBlanks();
        onceAtMost();
        anyLetterFirst();
        anyLetterBehindASign();
        anyLetterBehindANumber();
        anyLetterBehindAnItem();
        tokensThatCannotStand();
        numbersOfThemselves();
        theFirstFault();
        endsTooEarly();
        longestTexts();
        emptyBehindPot();
        asAtFirst();
        asAtFirstBehindFault();
        check.end();
    }

    private static void due(String call, long got, long want) {
        check.due(call, got, want);
    }

    private static DumplingPolls typed(String text) {
        DumplingPolls x = new DumplingPolls();
        Scene.tell(x, text);
        return x;
    }

    private static void fault(String text, int place) {
        DumplingPolls x = typed(text);
        due("pot() of <" + text + ">", x.pot(), -10 - place);
        due("letters then", x.count(5), text.length());
        due("pot() of <" + text + "> again", x.pot(), -10 - place);
    }

    private static void items(String text, int many) {
        DumplingPolls x = typed(text);
        due("pot() of <" + text + ">", x.pot(), many);
        due("letters then", x.count(5), 0);
    }

    /** Every number from 0 to 130 in a text: told if it may be, else the fault is at its first letter. */
    private static void range(String ahead, String behind, int[] edges, int what) {
        for (int n = 0; n <= 130; n++) {
            String text = ahead + n + behind;
            if (n < edges[0] || n > edges[1]) {
                fault(text, ahead.length());
            } else {
                DumplingPolls x = typed(text);
                due("pot() of " + text, x.pot(), 1);
                due("told by " + text, what < 0 ? x.count(-what) : x.dumpling(0, what), n);
            }
        }
    }

    /** "HEAT (0 .. 9; 3 at first)" */
    private static void heats() {
        due("at first", new DumplingPolls().count(1), 3);
        due("NOW at first", new DumplingPolls().now(1), 3);
        range("h", ";", new int[] {0, 9}, -1);
        range("  h ", " ;", new int[] {0, 9}, -1);
    }

    /** "GLUE (0 .. 9; 1 at first)" */
    private static void glues() {
        due("at first", new DumplingPolls().count(2), 1);
        range("g", ";", new int[] {0, 9}, -2);
    }

    /** "ROOM (9 .. 40; 20 at first)" */
    private static void rooms() {
        due("at first", new DumplingPolls().count(3), 20);
        range("r", ";", new int[] {9, 40}, -3);
    }

    /** "WEIGHT (0 .. 40)" */
    private static void weights() {
        range("d", " 5 1 1;", new int[] {0, 40}, 0);
    }

    /** "SIZE (1 .. 9)" */
    private static void sizes() {
        range("d5 ", " 1 1;", new int[] {1, 9}, 1);
    }

    /** "SWELL (0 .. 3)" */
    private static void swells() {
        range("d5 5 ", " 1;", new int[] {0, 3}, 2);
    }

    /** "SEATS (0 .. 9)" */
    private static void seats() {
        range("d5 5 1 ", ";", new int[] {0, 9}, 3);
    }

    /** "DUMPLINGS 0 .. (6 at most)", "a seventh d" */
    private static void sixDumplings() {
        items("h3;", 1);
        due("none", typed("h3;").count(0), 0);
        for (int many = 1; many <= 6; many++) {
            DumplingPolls x = typed(FULL_STEW.substring(0, 9 * many));
            due("pot() of " + many, x.pot(), many);
            due("count(0)", x.count(0), many);
            due("the last", x.dumpling(many - 1, 1), 1);
            due("none behind it", x.dumpling(many, 1), Check.BAD);
        }
        fault(FULL_STEW + "d", 54);
        fault(FULL_STEW + "d0 1 0 0;", 54);
        fault(FULL_STEW + "  d", 56);
        fault(FULL_STEW + "h3;d", 57);
        fault("h3;" + FULL_STEW + "d0 1 0 0;", 57);
        fault(FULL_STEW + "dx", 54);
        items(FULL_STEW + "h3;g3;r10;", 9);
        fault(FULL_STEW + "h3;g3;r10;h", 64);
        DumplingPolls x = typed("d1 1 0 1;d2 2 1 2;d3 3 2 3;d4 4 3 4;d5 5 0 5;d6 6 1 6;");
        due("pot() of six", x.pot(), 6);
        for (int d = 0; d < 6; d++) {
            due("WEIGHT of " + d, x.dumpling(d, 0), d + 1);
            due("SIZE of " + d, x.dumpling(d, 1), d + 1);
            due("SWELL of " + d, x.dumpling(d, 2), d % 4);
            due("SEATS of " + d, x.dumpling(d, 3), d + 1);
        }
    }

    /** "A letter (0 .. 255)", "(120 letters at most)", "BAD; FULL" */
    private static void letters() {
        for (int letter = 0; letter <= 255; letter++) {
            due("type(" + letter + ")", new DumplingPolls().type(letter), 1);
        }
        DumplingPolls x = new DumplingPolls();
        for (int i = 1; i <= 120; i++) {
            due("type(" + i + ")", x.type(i), i);
        }
        due("the 121st", x.type(0), Check.FULL);
        due("the 121st again", x.type(255), Check.FULL);
        due("BAD first", x.type(256), Check.BAD);
        due("pot() of these", x.pot(), -10);
        due("FULL still", x.type(32), Check.FULL);
        due("clear()", x.clear(), 120);
        due("count(5)", x.count(5), 0);
        due("the first anew", x.type(32), 1);
        due("clear() of one", x.clear(), 1);
        due("clear() of none", x.clear(), 0);
    }

    /** "ITEMS (none, too)" */
    private static void noneTold() {
        items("", 0);
        items(" ", 0);
        items(" ".repeat(120), 0);
        DumplingPolls x = typed("h9;g9;r9;d1 1 1 1;");
        due("pot()", x.pot(), 4);
        due("pot() of nothing", x.pot(), 0);
        due("no DUMPLINGS", x.count(0), 0);
        due("HEAT as at first", x.count(1), 3);
        due("GLUE as at first", x.count(2), 1);
        due("ROOM as at first", x.count(3), 20);
    }

    /** "blanks (32), any number, ahead of, between, behind TOKENS" */
    private static void blanksAnywhere() {
        String[] tokens = {"d", "5", " 6", " 1", " 7", ";", "h", "8", ";", "g", "2", ";", "r", "30", ";", ""};
        for (int gap = 0; gap < tokens.length; gap++) {
            for (int many : new int[] {1, 2, 40}) {
                StringBuilder text = new StringBuilder();
                for (int i = 0; i < tokens.length; i++) {
                    text.append(i == gap ? " ".repeat(many) : "").append(tokens[i]);
                }
                DumplingPolls x = typed(text.toString());
                due("pot() of " + text, x.pot(), 4);
                due("WEIGHT", x.dumpling(0, 0), 5);
                due("SEATS", x.dumpling(0, 3), 7);
                due("ROOM", x.count(3), 30);
            }
        }
        items("   h   3   ;   ", 1);
    }

    /** "(needed only between two NUMBERS)" */
    private static void blanksBetweenNumbers() {
        DumplingPolls x = typed("d12 3 1 4;g5;h6;");
        due("pot()", x.pot(), 3);
        due("WEIGHT", x.dumpling(0, 0), 12);
        fault("d12 31 4;", 4);
        fault("d1 2314;", 3);
        fault("d1 2 31 4;", 5);
        fault("d1 2 314;", 5);
        fault("d1 2 3 ;", 7);
        fault("d12 3 3;", 7);
        fault("h1 2;", 3);
        fault("h 1 2;", 4);
    }

    /** "blanks (32)": no other letter is one. */
    private static void onlyBlanksAreBlanks() {
        for (int letter : new int[] {0, 1, 2, 8, 9, 10, 11, 12, 13, 31, 33, 127, 128, 133, 160, 255}) {
            String odd = String.valueOf((char) letter);
            fault(odd + "h3;", 0);
            fault("h" + odd + "3;", 1);
            fault("h3" + odd + ";", 2);
            fault("h3;" + odd, 3);
            fault("d1" + odd + "1 1 1;", 2);
        }
    }

    /** "(HEAT), g N (GLUE), r N (ROOM; once at most each)", "h, g, r again" */
    private static void onceAtMost() {
        items("h3;g3;r30;", 3);
        items("r30;g3;h3;", 3);
        for (String sign : new String[] {"h", "g", "r"}) {
            String item = sign + "9;";
            fault(item + item, 3);
            fault(item + sign, 3);
            fault(item + "  " + sign, 5);
            fault(item + "d1 1 1 1;" + item, 12);
            fault("d1 1 1 1;" + item + sign, 12);
            items(item + "d1 1 1 1;", 2);
            items(item, 1);
        }
        fault("h3;g3;r30;h3;", 10);
        fault("h3;g3;r30;g3;", 10);
        fault("h3;g3;r30;r30;", 10);
        DumplingPolls x = typed("h1;");
        for (int i = 0; i < 3; i++) {
            due("pot() of h again, of another text", x.pot(), 1);
            Scene.tell(x, "h" + i + ";");
        }
        x = typed("h1;g1;r10;x");
        due("pot() with a fault", x.pot(), -20);
        x.clear();
        Scene.tell(x, "h2;g2;r12;");
        due("each once in this text", x.pot(), 3);
        due("HEAT", x.count(1), 2);
    }

    private static boolean isDigit(int letter) {
        return letter >= '0' && letter <= '9';
    }

    /** "of any other letter": its place; which letters begin an ITEM. */
    private static void anyLetterFirst() {
        for (int letter = 0; letter < 256; letter++) {
            DumplingPolls x = typed(" " + (char) letter);
            boolean begins = letter == 'd' || letter == 'h' || letter == 'g' || letter == 'r';
            int want = letter == ' ' ? 0 : begins ? -12 : -11;
            due("pot() of a blank and letter " + letter, x.pot(), want);
        }
    }

    private static void anyLetterBehindASign() {
        for (int letter = 0; letter < 256; letter++) {
            boolean goesOn = letter == ' ' || isDigit(letter);
            for (String sign : new String[] {"h", "g", "d"}) {
                due("pot() of " + sign + " and letter " + letter, typed(sign + (char) letter).pot(), goesOn ? -12 : -11);
            }
            boolean room = letter == ' ' || letter == '9';
            due("pot() of r and letter " + letter, typed("r" + (char) letter).pot(), room ? -12 : -11);
        }
    }

    /** "the first letter of the first TOKEN": a digit behind a digit is of the same NUMBER. */
    private static void anyLetterBehindANumber() {
        for (int letter = 0; letter < 256; letter++) {
            int other = letter == ' ' ? -13 : -12;
            int heat = letter == ';' ? 1 : isDigit(letter) ? -11 : other;
            due("pot() of h3 and letter " + letter, typed("h3" + (char) letter).pot(), heat);
            due("pot() of h0 and letter " + letter, typed("h0" + (char) letter).pot(), heat);
            boolean atMost40 = isDigit(letter) && letter == '0';
            int weight = atMost40 ? -13 : isDigit(letter) ? -11 : other;
            due("pot() of d4 and letter " + letter, typed("d4" + (char) letter).pot(), weight);
            int room = letter == ';' ? -12 : isDigit(letter) ? -13 : other;
            due("pot() of d3 and letter " + letter, typed("d3" + (char) letter).pot(), room);
            due("pot() of d9 and letter " + letter, typed("d9" + (char) letter).pot(), isDigit(letter) ? -11 : other);
        }
    }

    private static void anyLetterBehindAnItem() {
        for (int letter = 0; letter < 256; letter++) {
            boolean begins = letter == 'd' || letter == 'g' || letter == 'r';
            int want = letter == ' ' ? 1 : begins ? -14 : -13;
            due("pot() of h3; and letter " + letter, typed("h3;" + (char) letter).pot(), want);
        }
    }

    /** "the first letter of the first TOKEN that can't stand there" */
    private static void tokensThatCannotStand() {
        for (String token : new String[] {"d", "h", "g", "r", ";"}) {
            fault("d" + token, 1);
            fault("d1" + token, 2);
            fault("d1 1" + token, 4);
            fault("d1 1 1" + token, 6);
            fault("h" + token, 1);
            fault("g " + token, 2);
            fault("r  " + token, 3);
        }
        for (String token : new String[] {"d", "h", "g", "r", "5", "40"}) {
            fault("d1 1 1 1 " + token, 9);
            fault("h3 " + token, 3);
            fault("g3 " + token, 3);
            fault("r10 " + token, 4);
        }
        for (String token : new String[] {";", "0", "3", "40", "99"}) {
            fault(token, 0);
            fault("  " + token + ";", 2);
            fault("h3;" + token, 3);
            fault("d1 1 1 1;" + token, 9);
        }
    }

    /** "a NUMBER above 99 or with a 0 ahead of others, that TOKEN's" */
    private static void numbersOfThemselves() {
        String[] wrong = {"100", "101", "999", "1000", "00", "01", "09", "007", "000", "0100", "4294967296",
            "4294967299", "2147483648", "18446744073709551619", "9".repeat(60)};
        for (String number : wrong) {
            fault(number, 0);
            fault("h" + number + ";", 1);
            fault("g  " + number + ";", 3);
            fault("r" + number, 1);
            fault("h3 " + number, 3);
            fault("h3;" + number, 3);
            fault("d" + number + " 1 1 1;", 1);
            fault("d1 " + number + " 1 1;", 3);
            fault("d1 1 " + number + " 1;", 5);
            fault("d1 1 1 " + number + ";", 7);
            fault("d1 1 1 1 " + number + ";", 9);
        }
        items("h0;g0;d0 1 0 0;", 3);
        items("r10;d10 1 0 0;", 2);
    }

    /** Of several wrong TOKENS the first. */
    private static void theFirstFault() {
        fault("h10;x", 1);
        fault("x;h10;", 0);
        fault("h3;;00", 3);
        fault("h3;h100", 3);
        fault("d41 0 4 10", 1);
        fault("d40 0 4 10", 4);
        fault("d40 1 4 10", 6);
        fault("d40 1 3 10", 8);
        fault("d40 1 3 9x", 9);
        fault("d1 1 1 1 h3;;", 9);
        fault("h3 g3 r30", 3);
    }

    /** "the text's length, if it ends too early" */
    private static void endsTooEarly() {
        String text = "d5 6 1 7;h3;g2;r30;";
        String ends = "0,1,2,3,4,5,6,7,8,-1,10,11,-2,13,14,-3,16,16,18,-4";
        String[] due = ends.split(",");
        due("as many as there are beginnings", due.length, text.length() + 1);
        for (int length = 0; length <= text.length(); length++) {
            int end = Integer.parseInt(due[length]);
            String beginning = text.substring(0, length);
            if (end <= 0) {
                items(beginning, -end);
                items(beginning + "  ", -end);
            } else {
                fault(beginning, end);
            }
        }
        fault("d ", 2);
        fault("d5   ", 5);
        fault("d5 6  ", 6);
        fault("d5 6 1    ", 10);
        fault("d5 6 1 7  ", 10);
        fault("h3;g  ", 6);
        fault("r30 ", 4);
        fault(FULL_STEW + "h", 55);
    }

    private static void longestTexts() {
        String blanks = " ".repeat(117);
        items(blanks + "h8;", 1);
        items("h8;" + blanks, 1);
        items("h" + blanks + "8;", 1);
        DumplingPolls x = typed(blanks + "r40;");
        due("one letter too many", x.count(5), 120);
        due("ends too early, of 120 letters", x.pot(), -130);
        fault(blanks + "h8x", 119);
        fault(blanks + "  h", 120);
        fault("h" + " ".repeat(119), 120);
        fault("h" + "1".repeat(119), 1);
        fault("0".repeat(120), 0);
        fault("1" + "0".repeat(119), 0);
        fault(";".repeat(120), 0);
        fault(" ".repeat(119) + "x", 119);
        fault(" ".repeat(118) + "00", 118);
        items("d40 9 3 9;d40 9 3 9;d40 9 3 9;d40 9 3 9;d40 9 3 9;d40 9 3 9;h9;g9;r40;", 9);
    }

    /** "THE TEXT tells all anew, and is empty then" */
    private static void emptyBehindPot() {
        DumplingPolls x = typed("h5;d1 2 3 4;");
        due("letters", x.count(5), 12);
        due("pot()", x.pot(), 2);
        due("letters then", x.count(5), 0);
        due("clear()", x.clear(), 0);
        due("type()", x.type('h'), 1);
        due("what was told stays till pot()", x.count(1), 5);
    }

    /** "Read anew: as told (what is not told as at first)" */
    private static void asAtFirst() {
        DumplingPolls x = typed("h9;g9;r40;d40 9 3 9;d39 8 2 8;");
        due("pot()", x.pot(), 5);
        Scene.tell(x, "h5;");
        due("pot() of HEAT", x.pot(), 1);
        due("HEAT", x.count(1), 5);
        due("GLUE", x.count(2), 1);
        due("ROOM", x.count(3), 20);
        due("DUMPLINGS", x.count(0), 0);
        Scene.tell(x, "g5;d7 6 1 5;");
        due("pot() of GLUE and one", x.pot(), 2);
        due("HEAT", x.count(1), 3);
        due("HEAT NOW", x.now(1), 3);
        due("GLUE", x.count(2), 5);
        due("ROOM", x.count(3), 20);
        due("DUMPLINGS", x.count(0), 1);
        due("WEIGHT", x.dumpling(0, 0), 7);
        due("SIZE", x.dumpling(0, 1), 6);
        due("the second is gone", x.dumpling(1, 0), Check.BAD);
        Scene.tell(x, "r33;");
        due("pot() of ROOM", x.pot(), 1);
        due("HEAT", x.count(1), 3);
        due("GLUE", x.count(2), 1);
        due("ROOM", x.count(3), 33);
    }

    /** What a text with a fault told ahead of it is not told by the next. */
    private static void asAtFirstBehindFault() {
        DumplingPolls x = typed("h9;g9;r40;d40 9 3 9;d39 8 2 8;x");
        due("pot() with a fault", x.pot(), -40);
        due("DUMPLINGS", x.count(0), 0);
        due("HEAT", x.count(1), 3);
        due("GLUE", x.count(2), 1);
        due("ROOM", x.count(3), 20);
        due("clear()", x.clear(), 31);
        due("pot() of nothing", x.pot(), 0);
        due("DUMPLINGS", x.count(0), 0);
        due("HEAT", x.count(1), 3);
        due("GLUE", x.count(2), 1);
        due("ROOM", x.count(3), 20);
        Scene.tell(x, "d1 2 3 4;");
        due("pot() of one", x.pot(), 1);
        due("just one", x.count(0), 1);
        due("WEIGHT", x.dumpling(0, 0), 1);
    }
}
