/** Promises 18, 19 and 22 to 24, sentence by sentence: drawer, thing, minutes, minutesBits, count. */
public final class TellingTests extends Check {
    private static final int[] NO_WHATS = {-1, NONE, -10, 11, 12, 16, 31, 32, 256, Integer.MAX_VALUE, Integer.MIN_VALUE};

    public static void main(String[] args) {
        Sentences.run(TellingTests.class, "Promise 18", "Promise 19", "Promise 22", "Promise 23", "Promise 24");
    }

    private static void dueDrawers(DrawerCabinet x, int what, int... want) {
        for (int drawer = 0; drawer < want.length; drawer++) {
            due("drawer(" + drawer + ", " + what + ")", x.drawer(drawer, what), want[drawer]);
        }
    }

    private static void dueThing(String when, DrawerCabinet x, int thing, int... want) {
        for (int what = 0; what < want.length; what++) {
            due(when + ": thing(" + thing + ", " + what + ")", x.thing(thing, what), want[what]);
        }
    }

    // ---- drawer

    @Says(in = "Promise 18", words = {"`drawer`: a drawer", "UNKNOWN;"})
    static void drawerThatIsNot() {
        DrawerCabinet x = cabinet("ch;ch");
        for (int what = 0; what <= 10; what++) {
            due("NONE", x.drawer(NONE, what), UNKNOWN);
            due("the next number", x.drawer(2, what), UNKNOWN);
        }
        for (int drawer : noDrawers(2)) {
            due("drawer " + drawer, x.drawer(drawer, 0), UNKNOWN);
        }
        due("without drawers", new DrawerCabinet().drawer(0, 0), UNKNOWN);
        x.undo();
        due("undone", x.drawer(0, 0), UNKNOWN);
    }

    @Says(in = "Promise 18", words = {
        "`int drawer(int drawer, int what)`:",
        "`what`: 0 for its outer drawer (NONE for the cabinet),",
        "Returns the number;"})
    static void drawerOuter() {
        dueDrawers(cabinet("ch;0h;1h;1h;ch;0h"), 0, NONE, 0, 1, 1, NONE, 0);
    }

    @Says(in = "Promise 18", words = "1 for its hold,")
    static void drawerHold() {
        dueDrawers(cabinet("cs;cl0;ck0;ch"), 1, 3, 2, 1, 0);
    }

    @Says(in = "Promise 18", words = "2 for its key or holder (NONE for other holds),")
    static void drawerKeyOrHolder() {
        dueDrawers(cabinet("cs;cl15;ck9;ch;cl0;ck0"), 2, NONE, 15, 9, NONE, 0, 0);
        DrawerCabinet x = new DrawerCabinet();
        x.build(NONE, 0, 7, 0);
        x.build(NONE, 3, 7, 0);
        dueDrawers(x, 2, NONE, NONE);
    }

    @Says(in = "Promise 18", words = "3 for its stiffness,")
    static void drawerStiffness() {
        DrawerCabinet x = cabinet("ch");
        x.build(NONE, 0, 0, 9);
        x.build(NONE, 3, 0, 1);
        dueDrawers(x, 3, 0, 9, 1);
    }

    @Says(in = "Promise 18", words = "4 for its bottoms,")
    static void drawerBottoms() {
        DrawerCabinet x = cabinet("ch;ch*1;ch*2;ch*3");
        dueDrawers(x, 4, 0, 1, 2, 3);
        x.begin();
        x.take(10);
        x.open(3);
        x.lift(3);
        dueDrawers(x, 4, 0, 1, 2, 3);
    }

    @Says(in = "Promise 18", words = "5 for how many of these are lifted,")
    static void drawerLifted() {
        DrawerCabinet x = cabinet("ch*3;ch*2");
        dueDrawers(x, 5, 0, 0);
        x.begin();
        x.take(10);
        x.open(0);
        for (int lifted = 1; lifted <= 3; lifted++) {
            x.lift(0);
            dueDrawers(x, 5, lifted, 0);
        }
        x.close(0);
        dueDrawers(x, 5, 3, 0);
        x.giveUp();
        dueDrawers(x, 5, 0, 0);
    }

    @Says(in = "Promise 18", words = {"6 for whether it is open,", "(6 to 8: 1, otherwise 0;"})
    static void drawerOpen() {
        DrawerCabinet x = game("ch;0h;ch");
        dueDrawers(x, 6, 0, 0, 0);
        x.open(0);
        x.open(1);
        dueDrawers(x, 6, 1, 1, 0);
        x.close(0);
        dueDrawers(x, 6, 0, 1, 0);
    }

    @Says(in = "Promise 18", words = {"7 for whether its seal is broken,", "(6 to 8: 1, otherwise 0;"})
    static void drawerBroken() {
        DrawerCabinet x = game("cs;ch;cs");
        dueDrawers(x, 7, 0, 0, 0);
        x.open(0);
        x.open(1);
        dueDrawers(x, 7, 1, 0, 0);
        x.close(0);
        dueDrawers(x, 7, 1, 0, 0);
        x.take(11);
        x.seal(0);
        dueDrawers(x, 7, 0, 0, 0);
    }

    @Says(in = "Promise 18", words = {"8 for whether it can be reached,", "(6 to 8: 1, otherwise 0;"})
    static void drawerReached() {
        DrawerCabinet x = cabinet("ck0;0h;1h;ch;3h");
        dueDrawers(x, 8, 1, 0, 0, 1, 0);
        x.begin();
        dueDrawers(x, 8, 1, 0, 0, 1, 0);
        x.open(3);
        dueDrawers(x, 8, 1, 0, 0, 1, 1);
        x.take(0);
        x.open(0);
        x.open(1);
        dueDrawers(x, 8, 1, 1, 1, 1, 1);
        x.close(0);
        dueDrawers(x, 8, 1, 0, 0, 1, 1);
        x.giveUp();
        dueDrawers(x, 8, 1, 0, 0, 1, 0);
    }

    @Says(in = "Promise 18", words = "9 for the things in it that are not in hand (how many),")
    static void drawerThings() {
        DrawerCabinet x = cabinet("ch*1;0h;ch");
        dueDrawers(x, 9, 0, 0, 0);
        x.lay(0, 0, 0);
        x.lay(11, 0, 1);
        x.lay(5, 1, 0);
        dueDrawers(x, 9, 2, 1, 0);
        x.begin();
        x.open(0);
        dueDrawers(x, 9, 2, 1, 0);
        x.take(0);
        x.take(7);
        dueDrawers(x, 9, 1, 1, 0);
        x.giveUp();
        dueDrawers(x, 9, 2, 1, 0);
    }

    @Says(in = "Promise 18", words = "9 for the things in it that are not in hand (how many),")
    static void drawerAllThings() {
        DrawerCabinet x = cabinet("ch");
        for (int thing = 0; thing < 12; thing++) {
            x.lay(thing, 0, 0);
            dueDrawers(x, 9, thing + 1);
        }
        x.begin();
        x.open(0);
        for (int thing = 0; thing < 12; thing++) {
            x.take(thing);
            dueDrawers(x, 9, 11 - thing);
        }
    }

    @Says(in = "Promise 18", words = "10 for how many drawers it lies in, one in the other")
    static void drawerDepth() {
        dueDrawers(cabinet("ch;0h;1h;2h;0h;ch"), 10, 0, 1, 2, 3, 1, 0);
        DrawerCabinet x = cabinet("ch;0h;1h;2h;3h;4h;5h;6h;7h;8h;9h;10h;11h;12h;13h;14h");
        for (int drawer = 0; drawer < 16; drawer++) {
            due("drawer " + drawer, x.drawer(drawer, 10), drawer);
        }
    }

    @Says(in = "Promise 18", words = "without a game nothing is open or broken)")
    static void drawerWithoutAGame() {
        DrawerCabinet x = cabinet("cs;0s");
        dueDrawers(x, 6, 0, 0);
        dueDrawers(x, 7, 0, 0);
        x.begin();
        x.open(0);
        x.open(1);
        x.giveUp();
        dueDrawers(x, 6, 0, 0);
        dueDrawers(x, 7, 0, 0);
    }

    @Says(in = "Promise 18", words = "BAD_VALUE.")
    static void drawerWhatIsNot() {
        DrawerCabinet x = cabinet("ch");
        for (int what : NO_WHATS) {
            due("what " + what, x.drawer(0, what), BAD_VALUE);
        }
        x.begin();
        due("in a game", x.drawer(0, 11), BAD_VALUE);
    }

    @Says(in = "Promise 18", words = "UNKNOWN; BAD_VALUE.")
    static void drawerOrderOfErrors() {
        due("unknown before bad value", cabinet("ch").drawer(1, 11), UNKNOWN);
        due("unknown before bad value", new DrawerCabinet().drawer(0, -1), UNKNOWN);
    }

    // ---- thing

    @Says(in = "Promise 19", words = {"`thing`: 0 to 11", "UNKNOWN;"})
    static void thingThatIsNot() {
        DrawerCabinet x = cabinet("ch");
        for (int what = 0; what <= 3; what++) {
            due("NONE", x.thing(NONE, what), UNKNOWN);
            for (int thing : noThings()) {
                due("thing " + thing, x.thing(thing, what), UNKNOWN);
            }
        }
        due("the first", x.thing(0, 2), 0);
        due("the last", x.thing(11, 2), 0);
    }

    @Says(in = "Promise 19", words = {
        "`int thing(int thing, int what)`:",
        "0 for the drawer in which it lies (NONE on the table or in hand),",
        "Returns the number;"})
    static void thingDrawer() {
        DrawerCabinet x = cabinet("ch;ch");
        due("on the table", x.thing(4, 0), NONE);
        x.lay(4, 1, 0);
        due("in a drawer", x.thing(4, 0), 1);
        x.begin();
        due("in a closed drawer", x.thing(4, 0), 1);
        x.open(1);
        x.take(4);
        due("in hand", x.thing(4, 0), NONE);
        x.undo();
        due("undone", x.thing(4, 0), 1);
        x.take(4);
        x.giveUp();
        due("given up", x.thing(4, 0), 1);
        x.lay(4, NONE, 0);
        due("on the table again", x.thing(4, 0), NONE);
    }

    @Says(in = "Promise 19", words = "1 for its depth there (0 otherwise),")
    static void thingDepth() {
        DrawerCabinet x = cabinet("ch*3");
        due("on the table", x.thing(4, 1), 0);
        for (int depth = 0; depth <= 3; depth++) {
            x.lay(4, 0, depth);
            due("in a drawer", x.thing(4, 1), depth);
        }
        x.begin();
        x.take(10);
        x.open(0);
        x.lift(0);
        x.lift(0);
        x.lift(0);
        due("with its bottoms lifted", x.thing(4, 1), 3);
        x.take(4);
        due("in hand", x.thing(4, 1), 0);
        x.giveUp();
        due("given up", x.thing(4, 1), 3);
        x.lay(4, NONE, 0);
        due("on the table again", x.thing(4, 1), 0);
    }

    @Says(in = "Promise 19", words = {"2 for whether it is in hand,", "(2 and 3: 1, otherwise 0;"})
    static void thingInHand() {
        DrawerCabinet x = game("ch");
        for (int thing = 0; thing < 12; thing++) {
            due("on the table", x.thing(thing, 2), 0);
            x.take(thing);
            due("in hand", x.thing(thing, 2), 1);
        }
    }

    @Says(in = "Promise 19", words = {"3 for whether it can be taken now", "(2 and 3: 1, otherwise 0;"})
    static void thingThatCanBeTaken() {
        DrawerCabinet x = cabinet("ch*1;0h");
        x.lay(1, 0, 0);
        x.lay(2, 0, 1);
        x.lay(3, 1, 0);
        x.begin();
        dueThing("on the table", x, 0, NONE, 0, 0, 1);
        dueThing("in a closed drawer", x, 1, 0, 0, 0, 0);
        x.open(0);
        x.open(1);
        dueThing("in an open drawer", x, 1, 0, 0, 0, 1);
        dueThing("under a bottom", x, 2, 0, 1, 0, 0);
        dueThing("within", x, 3, 1, 0, 0, 1);
        x.take(10);
        x.lift(0);
        dueThing("under a lifted bottom", x, 2, 0, 1, 0, 1);
        x.close(0);
        dueThing("closed again", x, 2, 0, 1, 0, 0);
        dueThing("not reached", x, 3, 1, 0, 0, 0);
        dueThing("in hand", x, 10, NONE, 0, 1, 0);
    }

    @Says(in = "Promise 19", words = "without a game 0)")
    static void thingWithoutAGame() {
        DrawerCabinet x = cabinet("ch");
        x.lay(1, 0, 0);
        dueThing("on the table", x, 0, NONE, 0, 0, 0);
        dueThing("in a drawer", x, 1, 0, 0, 0, 0);
        x.begin();
        x.take(0);
        x.open(0);
        x.take(1);
        x.giveUp();
        dueThing("on the table again", x, 0, NONE, 0, 0, 0);
        dueThing("in a drawer again", x, 1, 0, 0, 0, 0);
    }

    @Says(in = "Promise 19", words = {"`what`: 0", "BAD_VALUE."})
    static void thingWhatIsNot() {
        DrawerCabinet x = cabinet("ch");
        due("4", x.thing(0, 4), BAD_VALUE);
        for (int what : NO_WHATS) {
            due("what " + what, x.thing(0, what), BAD_VALUE);
        }
        x.begin();
        x.take(0);
        due("in hand", x.thing(0, 4), BAD_VALUE);
    }

    @Says(in = "Promise 19", words = "UNKNOWN; BAD_VALUE.")
    static void thingOrderOfErrors() {
        due("unknown before bad value", cabinet("ch").thing(12, 4), UNKNOWN);
        due("unknown before bad value", new DrawerCabinet().thing(-1, -1), UNKNOWN);
    }

    // ---- minutes and minutesBits

    private static void dueMinutes(String what, DrawerCabinet x, double want) {
        due(what + ": minutes", x.minutes(), want);
        due(what + ": bits", x.minutesBits(), Float.floatToIntBits((float) want));
    }

    @Says(in = "Promise 22", words = "`double minutes()`: Returns how many minutes the game has taken;")
    static void minutesOfAGame() {
        DrawerCabinet x = new DrawerCabinet();
        x.build(NONE, 3, 0, 3);
        x.setBottoms(0, 1);
        x.begin();
        double want = 0.0;
        dueMinutes("begun", x, want);
        x.take(11);
        dueMinutes("a taking", x, want += 0.25);
        x.open(0);
        dueMinutes("an opening", x, want += 1.75);
        x.take(10);
        x.lift(0);
        dueMinutes("a taking and a lifting", x, want += 2.75);
        x.close(0);
        dueMinutes("a closing", x, want += 1.75);
        x.seal(0);
        dueMinutes("a sealing", x, want += 3.0);
        x.seal(0);
        x.lift(9);
        x.close(0);
        dueMinutes("no error and no NONE takes time", x, want);
        x.undo();
        dueMinutes("undone", x, want - 3.0);
    }

    @Says(in = "Promise 22", words = "-1.0 without a game.")
    static void minutesWithoutAGame() {
        DrawerCabinet x = new DrawerCabinet();
        due("a new object", x.minutes(), -1.0);
        x.build(NONE, 0, 0, 0);
        due("before a game", x.minutes(), -1.0);
        x.begin();
        due("begun", x.minutes(), 0.0);
        x.open(0);
        x.giveUp();
        due("after a game", x.minutes(), -1.0);
        x.undo();
        due("the game again", x.minutes(), 1.0);
    }

    @Says(in = "Promise 23", words =
        "`int minutesBits()`: Returns the minutes cast to a float, as bits (Float.floatToIntBits);")
    static void bitsOfSmallMinutes() {
        DrawerCabinet x = new DrawerCabinet();
        x.build(NONE, 0, 0, 0);
        x.begin();
        due("0.0", x.minutesBits(), 0);
        for (int thing = 0; thing < 12; thing++) {
            x.take(thing);
            dueMinutes("takings", x, 0.25 * (thing + 1));
        }
        for (int i = 1; i <= 70; i++) {
            dueMinutes("openings and closings", x, 3.0 + 2.0 * (i - 1));
            x.open(0);
            x.close(0);
        }
    }

    @Says(in = "Promise 23", words = "Returns the minutes cast to a float, as bits (Float.floatToIntBits);")
    static void bitsOfTheMostMinutes() {
        DrawerCabinet x = new DrawerCabinet();
        x.build(NONE, 0, 0, 9);
        x.begin();
        x.take(0);
        double want = 0.25;
        for (int i = 0; i < 250; i++) {
            if (i % 2 == 0) {
                x.open(0);
            } else {
                x.close(0);
            }
            want += 3.25;
            if (i % 4 == 0) {
                dueMinutes("stiff openings and closings", x, want);
            }
        }
        due("the last", x.minutes(), 812.75);
        due("its bits", x.minutesBits(), 0x444b3000);
    }

    @Says(in = "Promise 23", words = "0 without a game.")
    static void bitsWithoutAGame() {
        DrawerCabinet x = new DrawerCabinet();
        due("a new object", x.minutesBits(), 0);
        x.build(NONE, 0, 0, 0);
        due("before a game", x.minutesBits(), 0);
        x.begin();
        x.open(0);
        due("in a game", x.minutesBits(), 0x3f800000);
        x.giveUp();
        due("after a game", x.minutesBits(), 0);
    }

    // ---- count

    @Says(in = "Promise 24", words = {"`int count(int what)`:", "0 for the drawers,", "Returns the number;"})
    static void countDrawers() {
        DrawerCabinet x = new DrawerCabinet();
        for (int drawers = 0; drawers < 16; drawers++) {
            due("drawers", x.count(0), drawers);
            x.build(NONE, 0, 0, 0);
        }
        due("all", x.count(0), 16);
        x.undo();
        due("undone", x.count(0), 15);
    }

    @Says(in = "Promise 24", words = "1 for whether there is a game (1, otherwise 0),")
    static void countGame() {
        DrawerCabinet x = cabinet("ch");
        due("before", x.count(1), 0);
        x.begin();
        due("in it", x.count(1), 1);
        x.open(0);
        due("with all open", x.count(1), 1);
        x.giveUp();
        due("after", x.count(1), 0);
    }

    @Says(in = "Promise 24", words = "2 for open drawers,")
    static void countOpenDrawers() {
        DrawerCabinet x = game("ch;0h;ch");
        due("none", x.count(2), 0);
        x.open(0);
        x.open(1);
        x.open(2);
        due("three", x.count(2), 3);
        x.close(0);
        due("with one that is not reached", x.count(2), 2);
        x.giveUp();
        due("without a game", x.count(2), 0);
    }

    @Says(in = "Promise 24", words = "3 for things in hand (a set, as bits),")
    static void countThingsInHand() {
        DrawerCabinet x = game("ch");
        int want = 0;
        for (int i = 0; i < 12; i++) {
            int thing = i * 5 % 12;
            due("set", x.count(3), want);
            x.take(thing);
            want |= 1 << thing;
        }
        due("all", x.count(3), 4095);
        x.giveUp();
        due("without a game", x.count(3), 0);
    }

    @Says(in = "Promise 24", words = "4 for broken seals,")
    static void countBrokenSeals() {
        DrawerCabinet x = game("cs;0s;ch;cs");
        due("none", x.count(4), 0);
        x.open(0);
        x.open(1);
        x.open(2);
        due("two", x.count(4), 2);
        x.close(0);
        due("closed and not reached ones", x.count(4), 2);
        x.take(11);
        x.seal(0);
        due("one is laid again", x.count(4), 1);
        x.giveUp();
        due("without a game", x.count(4), 0);
    }

    @Says(in = "Promise 24", words = "5 for steps of the game,")
    static void countSteps() {
        DrawerCabinet x = cabinet("cs*1");
        due("before a game", x.count(5), 0);
        x.begin();
        x.take(10);
        x.open(0);
        x.lift(0);
        x.close(0);
        x.close(0);
        due("four", x.count(5), 4);
        x.undo();
        due("undone", x.count(5), 3);
        x.giveUp();
        due("after a game", x.count(5), 0);
        x.begin();
        due("in a new game", x.count(5), 0);
    }

    @Says(in = "Promise 24", words = "6 for whether the cabinet can be solved (1, otherwise 0),")
    static void countSolved() {
        DrawerCabinet x = new DrawerCabinet();
        due("without drawers", x.count(6), 1);
        x.build(NONE, 1, 2, 0);
        due("the key on the table", x.count(6), 1);
        x.lay(2, 0, 0);
        due("the key within", x.count(6), 0);
        x.begin();
        due("in a game", x.count(6), 0);
        x.giveUp();
        x.undo();
        x.undo();
        x.undo();
        due("undone", x.count(6), 1);
    }

    @Says(in = "Promise 24", words = "7 for drawers whose opening is not possible at the beginning of a game (a set),")
    static void countNotPossible() {
        DrawerCabinet x = cabinet("ch;cl9;1h;ck4;3h;cl2;ch");
        x.lay(4, 0, 0);
        due("no holder", x.count(7), 2 + 4 + 32);
        x.lay(4, 3, 0);
        due("and a key within", x.count(7), 2 + 4 + 8 + 16 + 32);
        DrawerCabinet y = cabinet("ch;cl1;" + "ch;".repeat(13) + "cl15");
        y.begin();
        y.open(0);
        due("the last one, in a game", y.count(7), 2 + (1 << 15));
        DrawerCabinet z = cabinet("cl1;".repeat(11) + "cl1");
        due("all of them", z.count(7), 0xfff);
    }

    @Says(in = "Promise 24", words = "8 for drawers that can be opened now (a set;")
    static void countOpenable() {
        DrawerCabinet x = game("ch;0h;ck3;cl1;cs;ch");
        due("begun", x.count(8), 1 + 16 + 32);
        x.open(0);
        due("one open", x.count(8), 2 + 16 + 32);
        x.open(1);
        x.take(3);
        due("with a key and a holder", x.count(8), 4 + 8 + 16 + 32);
        x.close(0);
        due("closed again", x.count(8), 1 + 4 + 8 + 16 + 32);
        DrawerCabinet y = game("ch;".repeat(15) + "ch");
        due("all", y.count(8), 0xffff);
    }

    @Says(in = "Promise 24", words = "0 without a game),")
    static void countOpenableWithoutAGame() {
        DrawerCabinet x = cabinet("ch;cs");
        due("before", x.count(8), 0);
        x.begin();
        due("in it", x.count(8), 3);
        x.giveUp();
        due("after", x.count(8), 0);
    }

    @Says(in = "Promise 24", words = "9 for the states in the history,")
    static void countStates() {
        DrawerCabinet x = new DrawerCabinet();
        for (int acts = 0; acts < 7; acts++) {
            due("states", x.count(9), Math.min(4, acts));
            x.build(NONE, 0, 0, 0);
        }
        x.undo();
        due("undone", x.count(9), 3);
    }

    @Says(in = "Promise 24", words = "10 for the length of the text")
    static void countLength() {
        DrawerCabinet x = new DrawerCabinet();
        for (int length = 0; length < 60; length++) {
            due("length", x.count(10), length);
            x.type('x');
        }
        due("sixty", x.count(10), 60);
        x.type('x');
        due("sixty still", x.count(10), 60);
        x.clearText();
        due("cleared", x.count(10), 0);
    }

    @Says(in = "Promise 24", words = {"`what`: 0", "BAD_VALUE."})
    static void countWhatIsNot() {
        DrawerCabinet x = new DrawerCabinet();
        for (int what : NO_WHATS) {
            due("what " + what, x.count(what), BAD_VALUE);
        }
        due("in a game", game("ch").count(11), BAD_VALUE);
        due("the least", x.count(0), 0);
        due("the most", x.count(10), 0);
    }
}
