/** The Terms' TEXTS, and promises 3, 13 and 14, sentence by sentence: buildAll, type, clearText. */
public final class TextTests extends Check {
    private static final String TERMS = "TEXTS";

    public static void main(String[] args) {
        Sentences.run(TextTests.class, TERMS, "Promise 3", "Promise 13", "Promise 14");
    }

    /** What a new cabinet answers to a text; none or all of its drawers are there then. */
    private static void dueOf(String text, int answer) {
        DrawerCabinet x = new DrawerCabinet();
        type(x, text);
        due("the text " + text, x.buildAll(), answer);
        due("drawers of " + text, x.count(0), Math.max(0, answer));
        due("states of " + text, x.count(9), answer > 0 ? 1 : 0);
        due("length of " + text, x.count(10), text.length());
    }

    private static void fault(String text, int index) {
        dueOf(text, -100 - index);
    }

    private static void dueDrawer(DrawerCabinet x, int drawer, int outer, int hold, int by, int bottoms) {
        int[] want = {outer, hold, by, 0, bottoms};
        for (int what = 0; what < want.length; what++) {
            due("drawer(" + drawer + ", " + what + ")", x.drawer(drawer, what), want[what]);
        }
    }

    // ---- the text

    @Says(in = TERMS, words = "There is a text of at most 60 characters,")
    static void atMostSixtyCharacters() {
        DrawerCabinet x = new DrawerCabinet();
        type(x, "ch;".repeat(19) + "ch*");
        due("the length", x.count(10), 60);
        due("one more", x.type('1'), FULL);
        due("the length stays", x.count(10), 60);
        due("the fault is behind the last", x.buildAll(), -160);
    }

    @Says(in = TERMS, words = "empty at first.")
    static void emptyAtFirst() {
        DrawerCabinet x = new DrawerCabinet();
        due("length", x.count(10), 0);
        due("cleared", x.clearText(), 0);
        due("read", x.buildAll(), -100);
    }

    @Says(in = TERMS, words = "A text of drawers is one or more drawers with \";\" between two:")
    static void oneOrMoreDrawers() {
        dueOf("ch", 1);
        dueOf("ch;ch", 2);
        dueOf("ch;".repeat(15) + "ch", 16);
        fault("", 0);
        fault(";", 0);
        fault(";ch", 0);
        fault("ch;", 3);
        fault("ch;;ch", 3);
        fault("ch,ch", 2);
        fault("ch ch", 2);
        fault("chch", 2);
        fault("ch:ch", 2);
    }

    // ---- the outer drawer

    @Says(in = TERMS, words = "\"c\" (in the cabinet)")
    static void outerIsTheCabinet() {
        DrawerCabinet x = cabinet("ch;ch");
        dueDrawer(x, 0, NONE, 0, NONE, 0);
        dueDrawer(x, 1, NONE, 0, NONE, 0);
        fault("Ch", 0);
        fault("dh", 0);
        fault("bh", 0);
        fault("h", 0);
        fault("cch", 1);
    }

    @Says(in = TERMS, words = "or the number of its outer drawer (0 to 15,")
    static void outerIsANumber() {
        DrawerCabinet x = cabinet("ch;0h;1h;2h;3h;4h;5h;6h;7h;8h;9h;10h;11h;12h;13h;14h");
        for (int drawer = 1; drawer < 16; drawer++) {
            dueDrawer(x, drawer, drawer - 1, 0, NONE, 0);
        }
        dueOf("15h", UNKNOWN);
        fault("16h", 1);
        fault("19h", 1);
        fault("20h", 1);
        fault("-1h", 0);
        fault("/h", 0);
        fault(":h", 0);
        fault("1/h", 1);
        fault("1:h", 1);
        fault("0c", 1);
    }

    @Says(in = TERMS, words = "which has to be less than its own number would be,")
    static void outerIsLess() {
        dueOf("0h", UNKNOWN);
        dueOf("ch;1h", UNKNOWN);
        dueOf("ch;0h;2h", UNKNOWN);
        dueOf("ch;2h;ch", UNKNOWN);
        dueOf("ch;0h;1h", 3);
    }

    @Says(in = TERMS, words = "if the drawers of the text come behind those that there are);")
    static void outerIsOneThatIsThere() {
        DrawerCabinet x = cabinet("ch;cs");
        type(x, "1k4;2h");
        due("behind two", x.buildAll(), 2);
        dueDrawer(x, 2, 1, 1, 4, 0);
        dueDrawer(x, 3, 2, 0, NONE, 0);
        type(x, "4h");
        due("its own number", x.buildAll(), UNKNOWN);
        type(x, "3h");
        due("one less", x.buildAll(), 1);
        dueDrawer(x, 4, 3, 0, NONE, 0);
        x.undo();
        x.undo();
        due("with fewer before", x.buildAll(), UNKNOWN);
    }

    // ---- the hold

    @Says(in = TERMS, words = "then \"h\" (a handle),")
    static void handle() {
        dueDrawer(cabinet("ch"), 0, NONE, 0, NONE, 0);
        fault("c", 1);
        fault("cH", 1);
        fault("cg", 1);
        fault("ci", 1);
        fault("ch1", 2);
        fault("chh", 2);
    }

    @Says(in = TERMS, words = "\"k\" and a key (0 to 9),")
    static void lock() {
        for (int key = 0; key <= 9; key++) {
            dueDrawer(cabinet("ck" + key), 0, NONE, 1, key, 0);
        }
        fault("ck", 2);
        fault("ck;", 2);
        fault("ck/", 2);
        fault("ck:", 2);
        fault("ckh", 2);
        fault("ck*", 2);
        fault("cK1", 1);
    }

    @Says(in = TERMS, words = "\"l\" and a holder (0 to 15, any number),")
    static void lever() {
        for (int holder = 0; holder <= 15; holder++) {
            dueDrawer(cabinet("cl" + holder), 0, NONE, 2, holder, 0);
        }
        fault("cl", 2);
        fault("cl;", 2);
        fault("cl/", 2);
        fault("cl:", 2);
        fault("cl16", 3);
        fault("cl20", 3);
        fault("cl150", 4);
        fault("cl1/", 3);
        fault("cl1:", 3);
        fault("cL1", 1);
    }

    @Says(in = TERMS, words = "or \"s\" (a seal);")
    static void seal() {
        dueDrawer(cabinet("cs"), 0, NONE, 3, NONE, 0);
        fault("cS", 1);
        fault("cr", 1);
        fault("ct", 1);
        fault("cs0", 2);
        fault("csh", 2);
    }

    // ---- the bottoms

    @Says(in = TERMS, words = "and perhaps \"*\" and bottoms (1 to 3).")
    static void bottoms() {
        DrawerCabinet x = cabinet("ch*1;0k2*2;1l10*3;2s*1;cs");
        dueDrawer(x, 0, NONE, 0, NONE, 1);
        dueDrawer(x, 1, 0, 1, 2, 2);
        dueDrawer(x, 2, 1, 2, 10, 3);
        dueDrawer(x, 3, 2, 3, NONE, 1);
        dueDrawer(x, 4, NONE, 3, NONE, 0);
        fault("ch*", 3);
        fault("ch*0", 3);
        fault("ch*4", 3);
        fault("ch*/", 3);
        fault("ch*:", 3);
        fault("ch*;", 3);
        fault("ch**1", 3);
        fault("ch*1*1", 4);
        fault("c*1h", 1);
        fault("ch1", 2);
    }

    // ---- numbers

    @Says(in = TERMS, words = "Numbers have no zero in front, unless it is the single digit 0;")
    static void noZeroInFront() {
        fault("00h", 1);
        fault("01h", 1);
        fault("015h", 1);
        fault("cl00", 3);
        fault("cl05", 3);
        fault("ck00", 3);
        fault("ck07", 3);
        fault("ch*01", 3);
        dueOf("ch;0h", 2);
        dueOf("cl0", 1);
        dueOf("ck0", 1);
        dueOf("cl10", 1);
    }

    @Says(in = TERMS, words = "a digit by which a number would be greater than told is not allowed.")
    static void noDigitTooMany() {
        for (int digit = 0; digit <= 9; digit++) {
            if (digit <= 5) {
                dueOf("cl1" + digit, 1);
                dueOf("1" + digit + "h", UNKNOWN);
            } else {
                fault("cl1" + digit, 3);
                fault("1" + digit + "h", 1);
            }
            fault("cl2" + digit, 3);
            fault("9" + digit + "h", 1);
            fault("ck1" + digit, 3);
            fault("ch*1" + digit, 4);
            fault("cl15" + digit, 4);
            fault("15" + digit + "h", 2);
        }
    }

    // ---- faults

    @Says(in = TERMS, words =
        "The fault of the text is the index, from 0, of the first character that is not allowed at its place,")
    static void faultIsTheFirstCharacterThatIsNotAllowed() {
        fault("xh", 0);
        fault("cx", 1);
        fault("chx", 2);
        fault("ch;x", 3);
        fault("ch;0x", 4);
        fault("ch;0hx", 5);
        fault("ch;0kx", 5);
        fault("ch;0k1x", 6);
        fault("ch;0k1*x", 7);
        fault("ch;0k1*1x", 8);
        fault("xx", 0);
        fault("cxx;xx", 1);
        fault("ch;".repeat(19) + "chx", 59);
        fault("ch;".repeat(19) + "cx", 58);
    }

    @Says(in = TERMS, words = "of the first character that is not allowed at its place,")
    static void strangeCharactersAreNotAllowed() {
        char[] strange = {0, '\t', '\n', ' ', 127, 128, 160, 233, 255, 256, 0x0130, 0x0660, 0x2028, 0xd800, 0xff10, 0xffff};
        for (char sign : strange) {
            fault("" + sign, 0);
            fault("c" + sign, 1);
            fault("ch" + sign, 2);
            fault("ch;" + sign, 3);
            fault("ck" + sign, 2);
            fault("cl" + sign, 2);
            fault("cl1" + sign, 3);
            fault("ch*" + sign, 3);
        }
        // these have the lowest byte of a letter or a digit
        fault("" + (char) ('c' + 256), 0);
        fault("c" + (char) ('h' + 256), 1);
        fault("ck" + (char) ('1' + 256), 2);
        fault("ch" + (char) (';' + 65280), 2);
    }

    @Says(in = TERMS, words = "or the length of the text if it ends too early")
    static void faultIsTheLengthIfItEndsTooEarly() {
        String[] texts = {"c", "ck", "cl", "ch*", "ch;", "0", "15", "ch;c", "ch;1", "ch;ck", "cl15*", "ck9*", "cs*", "cs*3;"};
        for (String text : texts) {
            fault(text, text.length());
        }
        fault("ch;".repeat(20), 60);
        fault("ch;".repeat(18) + "ch*3;c", 60);
        fault("ch;".repeat(18) + "ch*3;1", 60);
    }

    @Says(in = TERMS, words = "(the empty text does).")
    static void theEmptyTextEndsTooEarly() {
        fault("", 0);
        DrawerCabinet x = cabinet("ch");
        x.clearText();
        due("emptied", x.buildAll(), -100);
        due("drawers", x.count(0), 1);
    }

    @Says(in = TERMS, words = "(The stiffness is 0.")
    static void stiffnessIsZero() {
        DrawerCabinet x = new DrawerCabinet();
        x.build(NONE, 0, 0, 9);
        x.undo();
        type(x, "ch;ck9;cl9;cs");
        x.buildAll();
        for (int drawer = 0; drawer < 4; drawer++) {
            due("stiffness", x.drawer(drawer, 3), 0);
        }
    }

    @Says(in = TERMS, words = "That an outer drawer is not less is found behind faults.)")
    static void faultsAreFoundFirst() {
        dueOf("5h", UNKNOWN);
        fault("5h;", 3);
        fault("5h;ch;x", 6);
        fault("15hx", 3);
        fault("0", 1);
    }

    // ---- buildAll

    @Says(in = "Promise 3", words = {
        "`int buildAll()`: Builds the drawers of the text,", "Returns how many the text has;"})
    static void buildAllAnswersHowMany() {
        DrawerCabinet x = new DrawerCabinet();
        x.build(NONE, 0, 0, 7);
        type(x, "0s*3;ck9;1l15*1;3h;ch*2");
        due("how many", x.buildAll(), 5);
        due("drawers", x.count(0), 6);
        dueDrawer(x, 1, 0, 3, NONE, 3);
        dueDrawer(x, 2, NONE, 1, 9, 0);
        dueDrawer(x, 3, 1, 2, 15, 1);
        dueDrawer(x, 4, 3, 0, NONE, 0);
        dueDrawer(x, 5, NONE, 0, NONE, 2);
        due("the one before", x.drawer(0, 3), 7);
    }

    @Says(in = "Promise 3", words = "Builds the drawers of the text,")
    static void buildAllLeavesNoTraceOfEarlierTexts() {
        String[] texts = {"ch;0h;1h", "ck2;0k3;1k4", "cl4;0l5;1l6", "cs;0s;1s"};
        DrawerCabinet x = cabinet("cs*3;0l10*2;1k7*1");
        for (int hold = 0; hold < 4; hold++) {
            x.undo();
            type(x, texts[hold]);
            due("how many", x.buildAll(), 3);
            for (int drawer = 0; drawer < 3; drawer++) {
                int by = hold == 1 ? drawer + 2 : hold == 2 ? drawer + 4 : NONE;
                dueDrawer(x, drawer, drawer == 0 ? NONE : drawer - 1, hold, by, 0);
            }
        }
        type(x, "ch;".repeat(20));
        due("a text with a fault", x.buildAll(), -160);
        type(x, "ch;9h");
        due("one with an outer drawer that is not less", x.buildAll(), UNKNOWN);
        type(x, "cl0");
        due("a shorter one", x.buildAll(), 1);
        dueDrawer(x, 3, NONE, 2, 0, 0);
    }

    @Says(in = "Promise 3", words = "which stays;")
    static void buildAllLeavesTheText() {
        DrawerCabinet x = new DrawerCabinet();
        type(x, "ch;cs");
        due("once", x.buildAll(), 2);
        due("length", x.count(10), 5);
        due("twice", x.buildAll(), 2);
        due("drawers", x.count(0), 4);
        x.type('x');
        due("a fault", x.buildAll(), -105);
        due("it stays with its fault", x.count(10), 6);
        due("the fault again", x.buildAll(), -105);
    }

    @Says(in = "Promise 3", words = "all of them, or none.")
    static void buildAllBuildsNoneOfThem() {
        dueOf("ch;ch;chx", -108);
        dueOf("ch;ch;3h", UNKNOWN);
        dueOf("ch;".repeat(16) + "ch", FULL);
        DrawerCabinet x = cabinet("ch;".repeat(14) + "ch");
        type(x, "ch;ch");
        due("there is room for one alone", x.buildAll(), FULL);
        due("drawers", x.count(0), 15);
        type(x, "ch");
        due("one alone", x.buildAll(), 1);
    }

    @Says(in = "Promise 3", words = "This is one act.")
    static void buildAllIsOneAct() {
        DrawerCabinet x = new DrawerCabinet();
        type(x, "ch;0s*2;1k3");
        due("build", x.buildAll(), 3);
        due("one state", x.count(9), 1);
        due("undone at once", x.undo(), 0);
        due("drawers", x.count(0), 0);
        x.build(NONE, 0, 0, 0);
        Told.recorded(x, 3, DrawerCabinet::buildAll);
    }

    @Says(in = "Promise 3", words = "-100 minus the fault of the text if it has one")
    static void buildAllAnswersTheFault() {
        fault("", 0);
        fault("x", 0);
        fault("cx", 1);
        fault("ch;".repeat(20), 60);
    }

    @Says(in = "Promise 3", words = "(which is an error);")
    static void aFaultIsAnErrorAndRecordsNothing() {
        DrawerCabinet x = cabinet("ch");
        type(x, "cs;cx");
        due("a fault", x.buildAll(), -104);
        due("states", x.count(9), 1);
        due("drawers", x.count(0), 1);
        due("undo takes the first back", x.undo(), 0);
        due("drawers", x.count(0), 0);
    }

    @Says(in = "Promise 3", words = "UNKNOWN if an outer drawer is not less than the drawer;")
    static void buildAllWithAnOuterDrawerThatIsNotLess() {
        dueOf("0h", UNKNOWN);
        dueOf("15h", UNKNOWN);
        dueOf("ch;1s", UNKNOWN);
        dueOf("ch;3h;ch;ch;ch", UNKNOWN);
        dueOf("ch;0h;1h;2h;15h", UNKNOWN);
        DrawerCabinet x = cabinet("ch;".repeat(15) + "14h");
        due("the last one may lie in the one before", x.drawer(15, 0), 14);
    }

    @Says(in = "Promise 3", words = "FULL if there would be more than 16;")
    static void buildAllMoreThanSixteen() {
        dueOf("ch;".repeat(15) + "ch", 16);
        dueOf("ch;".repeat(16) + "ch", FULL);
        dueOf("ch;".repeat(19) + "ch", FULL);
        DrawerCabinet x = cabinet("ch;".repeat(14) + "ch");
        type(x, "14s");
        due("the sixteenth", x.buildAll(), 1);
        due("the seventeenth", x.buildAll(), FULL);
        due("states", x.count(9), 2);
    }

    @Says(in = "Promise 3", words = "NOT_POSSIBLE in a game.")
    static void buildAllInAGame() {
        DrawerCabinet x = game("ch");
        due("in a game", x.buildAll(), NOT_POSSIBLE);
        due("drawers", x.count(0), 1);
        x.giveUp();
        due("after it", x.buildAll(), 1);
    }

    @Says(in = "Promise 3", words = {
        "-100 minus the fault of the text if it has one (which is an error); UNKNOWN if an outer drawer is not less"
            + " than the drawer; FULL if there would be more than 16; NOT_POSSIBLE in a game."})
    static void buildAllOrderOfErrors() {
        dueOf("15h;x", -104);
        fault("ch;".repeat(19) + "chx", 59);
        dueOf("0h;" + "ch;".repeat(18) + "ch", UNKNOWN);
        DrawerCabinet x = game("ch;".repeat(15) + "ch");
        type(x, "x");
        due("a fault before a game", x.buildAll(), -100);
        type(x, "ch");
        due("full before a game", x.buildAll(), FULL);
        DrawerCabinet y = game("ch");
        type(y, "1h");
        due("unknown before a game", y.buildAll(), UNKNOWN);
    }

    @Says(in = "Promise 3", words = {
        "UNKNOWN if an outer drawer is not less than the drawer;", "FULL if there would be more than 16;"})
    static void buildAllUnknownBehindTheSixteenth() {
        DrawerCabinet x = cabinet("ch;".repeat(14) + "ch");
        type(x, "15h");
        due("its own number", x.buildAll(), UNKNOWN);
        type(x, "ch;15h");
        due("less than 16, but there is no room", x.buildAll(), FULL);
        due("drawers", x.count(0), 15);
    }

    // ---- type

    @Says(in = "Promise 13", words = {
        "`int type(char character)`: Types a character behind the text.", "Returns the length of the text then;"})
    static void typeAnswersTheLength() {
        DrawerCabinet x = new DrawerCabinet();
        String text = "ch;0k9*2";
        for (int i = 0; i < text.length(); i++) {
            due("type", x.type(text.charAt(i)), i + 1);
            due("length", x.count(10), i + 1);
        }
        due("in this order", x.buildAll(), 2);
        dueDrawer(x, 1, 0, 1, 9, 2);
    }

    @Says(in = "Promise 13", words = "`character`: any character")
    static void typeAnyCharacter() {
        DrawerCabinet x = new DrawerCabinet();
        char[] signs = {0, 1, '\t', '\n', ' ', 'c', 127, 128, 255, 256, 0x2028, 0xd800, 0xdc00, 0xfeff, 0xffff};
        for (int i = 0; i < signs.length; i++) {
            due("sign " + (int) signs[i], x.type(signs[i]), i + 1);
        }
        due("the first is a fault", x.buildAll(), -100);
    }

    @Says(in = "Promise 13", words = "FULL if it has 60 characters.")
    static void typeTheSixtyFirst() {
        DrawerCabinet x = new DrawerCabinet();
        for (int i = 0; i < 60; i++) {
            due("type", x.type(i % 3 == 0 ? 'c' : i % 3 == 1 ? 'h' : ';'), i + 1);
        }
        due("the sixty-first", x.type('c'), FULL);
        due("again", x.type((char) 0), FULL);
        due("length", x.count(10), 60);
        due("the text is as it was", x.buildAll(), -160);
        x.clearText();
        due("with room again", x.type('c'), 1);
    }

    // ---- clearText

    @Says(in = "Promise 14", words = {"`int clearText()`: Empties the text.", "Returns the length that it had."})
    static void clearTextAnswersTheLength() {
        DrawerCabinet x = new DrawerCabinet();
        type(x, "ch;0s");
        due("five", x.clearText(), 5);
        due("length", x.count(10), 0);
        due("what was there is gone", x.buildAll(), -100);
        x.type('c');
        due("one alone is there", x.buildAll(), -101);
        due("one", x.clearText(), 1);
    }

    @Says(in = "Promise 14", words = "Returns the length that it had.")
    static void clearTextOfNoneAndOfSixty() {
        DrawerCabinet x = new DrawerCabinet();
        due("none", x.clearText(), 0);
        due("none again", x.clearText(), 0);
        type(x, "x".repeat(60));
        due("sixty", x.clearText(), 60);
        due("none", x.clearText(), 0);
    }

    @Says(in = "Promise 14", words = "Empties the text.")
    static void clearTextLeavesTheRest() {
        DrawerCabinet x = cabinet("ch;0s");
        int[] before = Told.state(x);
        x.clearText();
        Told.same("the state", Told.state(x), before);
        due("states", x.count(9), 1);
    }
}
