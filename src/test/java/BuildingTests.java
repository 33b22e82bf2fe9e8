/** Promises 1, 2, 4 and 5, sentence by sentence: a new object, build, setBottoms, lay. */
public final class BuildingTests extends Check {
    public static void main(String[] args) {
        Sentences.run(BuildingTests.class, "Promise 1", "Promise 2", "Promise 4", "Promise 5");
    }

    // ---- a new object

    @Says(in = "Promise 1", words = "`DrawerCabinet()`: Creates a cabinet without drawers.")
    static void newObject() {
        DrawerCabinet x = new DrawerCabinet();
        int[] counts = {0, 0, 0, 0, 0, 0, 1, 0, 0, 0, 0, BAD_VALUE};
        for (int what = 0; what < counts.length; what++) {
            due("count " + what, x.count(what), counts[what]);
        }
        due("the first drawer", x.drawer(0, 0), UNKNOWN);
        due("the table", x.thing(0, 0), NONE);
        due("undo", x.undo(), NONE);
        due("restore", x.restore(), NONE);
        due("minutes", x.minutes(), -1.0);
    }

    @Says(in = "Promise 1", words = "Creates a cabinet without drawers.")
    static void newObjectsShareNothing() {
        DrawerCabinet x = cabinet("ch;cs");
        x.lay(3, 1, 0);
        x.keep();
        DrawerCabinet y = new DrawerCabinet();
        due("drawers", y.count(0), 0);
        due("text", y.count(10), 0);
        due("history", y.count(9), 0);
        due("snapshot", y.restore(), NONE);
        due("things", y.thing(3, 0), NONE);
        due("drawers of the first", x.count(0), 2);
    }

    // ---- build

    @Says(in = "Promise 2", words = {
        "`int build(int outer, int hold, int by, int stiffness)`: Builds a drawer.", "Returns its number;"})
    static void buildAnswersItsNumber() {
        DrawerCabinet x = new DrawerCabinet();
        for (int drawer = 0; drawer < 16; drawer++) {
            due("build", x.build(NONE, 0, 0, drawer % 10), drawer);
            due("drawers", x.count(0), drawer + 1);
        }
        for (int drawer = 0; drawer < 16; drawer++) {
            due("stiffness", x.drawer(drawer, 3), drawer % 10);
        }
    }

    @Says(in = "Promise 2", words = "Builds a drawer. This is an act.")
    static void buildIsAnAct() {
        DrawerCabinet x = cabinet("ch;0s");
        Told.recorded(x, 2, y -> y.build(1, 1, 7, 9));
        int[] want = {1, 1, 7, 9, 0, 0, 0, 0, 0, 0, 2};
        for (int what = 0; what < want.length; what++) {
            due("drawer(2, " + what + ")", x.drawer(2, what), want[what]);
        }
    }

    @Says(in = "Promise 2", words = "`outer`: a drawer,")
    static void buildInAnyDrawer() {
        DrawerCabinet x = cabinet("ch;ch;ch");
        due("in the first", x.build(0, 0, 0, 0), 3);
        due("in the last", x.build(3, 0, 0, 0), 4);
        due("in one between", x.build(1, 0, 0, 0), 5);
        due("the outer drawer", x.drawer(3, 0), 0);
        due("the outer drawer", x.drawer(4, 0), 3);
        due("the outer drawer", x.drawer(5, 0), 1);
    }

    @Says(in = "Promise 2", words = "or NONE for the cabinet")
    static void buildInTheCabinet() {
        DrawerCabinet x = cabinet("ch");
        due("build", x.build(NONE, 0, 0, 0), 1);
        due("the outer drawer", x.drawer(1, 0), NONE);
        due("how deep", x.drawer(1, 10), 0);
    }

    @Says(in = "Promise 2", words = {"`outer`: a drawer,", "UNKNOWN (outer);"})
    static void buildInNoDrawer() {
        DrawerCabinet x = new DrawerCabinet();
        due("in an empty cabinet", x.build(0, 0, 0, 0), UNKNOWN);
        x.build(NONE, 0, 0, 0);
        x.build(NONE, 0, 0, 0);
        for (int outer : noDrawers(2)) {
            due("outer " + outer, x.build(outer, 0, 0, 0), UNKNOWN);
        }
        due("drawers", x.count(0), 2);
        due("history", x.count(9), 2);
    }

    @Says(in = "Promise 2", words = "`hold`: 0 to 3")
    static void buildWithEachHold() {
        DrawerCabinet x = new DrawerCabinet();
        for (int hold = 0; hold <= 3; hold++) {
            due("build", x.build(NONE, hold, 0, 0), hold);
            due("hold", x.drawer(hold, 1), hold);
        }
    }

    @Says(in = "Promise 2", words = {"`hold`: 0 to 3", "BAD_VALUE;"})
    static void buildWithNoHold() {
        DrawerCabinet x = new DrawerCabinet();
        int[] holds = {-1, 4, 5, NONE, 16, 32, 256, Integer.MAX_VALUE, Integer.MIN_VALUE};
        for (int hold : holds) {
            due("hold " + hold, x.build(NONE, hold, 0, 0), BAD_VALUE);
        }
        due("drawers", x.count(0), 0);
    }

    @Says(in = "Promise 2", words = "`by`: the key (0 to 9) for a lock,")
    static void buildWithEachKey() {
        DrawerCabinet x = new DrawerCabinet();
        for (int key = 0; key <= 9; key++) {
            due("build", x.build(NONE, 1, key, 0), key);
            due("key", x.drawer(key, 2), key);
        }
    }

    @Says(in = "Promise 2", words = {"`by`: the key (0 to 9) for a lock,", "BAD_VALUE;"})
    static void buildWithNoKey() {
        DrawerCabinet x = new DrawerCabinet();
        int[] keys = {-1, 10, 11, 12, 15, NONE, 32, Integer.MAX_VALUE, Integer.MIN_VALUE};
        for (int key : keys) {
            due("key " + key, x.build(NONE, 1, key, 0), BAD_VALUE);
        }
        due("drawers", x.count(0), 0);
    }

    @Says(in = "Promise 2", words = "the holder (0 to 15,")
    static void buildWithEachHolder() {
        DrawerCabinet x = new DrawerCabinet();
        for (int holder = 0; holder <= 15; holder++) {
            due("build", x.build(NONE, 2, holder, 0), holder);
            due("holder", x.drawer(holder, 2), holder);
        }
    }

    @Says(in = "Promise 2", words = {"the holder (0 to 15,", "BAD_VALUE;"})
    static void buildWithNoHolder() {
        DrawerCabinet x = cabinet("ch");
        int[] holders = {-1, 16, 17, NONE, 32, Integer.MAX_VALUE, Integer.MIN_VALUE};
        for (int holder : holders) {
            due("holder " + holder, x.build(NONE, 2, holder, 0), BAD_VALUE);
        }
        due("drawers", x.count(0), 1);
    }

    @Says(in = "Promise 2", words = "it need not be there yet) for a lever,")
    static void buildBeforeTheHolder() {
        DrawerCabinet x = new DrawerCabinet();
        due("a later one", x.build(NONE, 2, 2, 0), 0);
        due("its own number", x.build(NONE, 2, 1, 0), 1);
        due("the last one", x.build(NONE, 2, 15, 0), 2);
        due("holder", x.drawer(0, 2), 2);
        due("holder", x.drawer(1, 2), 1);
        due("holder", x.drawer(2, 2), 15);
    }

    @Says(in = "Promise 2", words = "otherwise it does not matter")
    static void buildWithAnythingForHandlesAndSeals() {
        DrawerCabinet x = new DrawerCabinet();
        int[] numbers = {-1, 10, 16, NONE, Integer.MAX_VALUE, Integer.MIN_VALUE};
        for (int i = 0; i < numbers.length; i++) {
            due("a handle by " + numbers[i], x.build(NONE, 0, numbers[i], 0), 2 * i);
            due("a seal by " + numbers[i], x.build(NONE, 3, numbers[i], 0), 2 * i + 1);
            due("told of the handle", x.drawer(2 * i, 2), NONE);
            due("told of the seal", x.drawer(2 * i + 1, 2), NONE);
        }
    }

    @Says(in = "Promise 2", words = "`stiffness`: 0 to 9")
    static void buildWithEachStiffness() {
        DrawerCabinet x = new DrawerCabinet();
        for (int stiffness = 0; stiffness <= 9; stiffness++) {
            due("build", x.build(NONE, stiffness % 4, 0, stiffness), stiffness);
            due("stiffness", x.drawer(stiffness, 3), stiffness);
        }
    }

    @Says(in = "Promise 2", words = {"`stiffness`: 0 to 9", "BAD_VALUE;"})
    static void buildWithNoStiffness() {
        DrawerCabinet x = new DrawerCabinet();
        int[] numbers = {-1, 10, NONE, 16, Integer.MAX_VALUE, Integer.MIN_VALUE};
        for (int stiffness : numbers) {
            for (int hold = 0; hold <= 3; hold++) {
                due("stiffness " + stiffness, x.build(NONE, hold, 0, stiffness), BAD_VALUE);
            }
        }
        due("drawers", x.count(0), 0);
    }

    @Says(in = "Promise 2", words = "FULL if there are 16;")
    static void buildSeventeenth() {
        DrawerCabinet x = cabinet("ch;".repeat(14) + "ch");
        due("the sixteenth", x.build(14, 0, 0, 0), 15);
        due("the seventeenth", x.build(NONE, 0, 0, 0), FULL);
        due("in the last", x.build(15, 3, 0, 9), FULL);
        due("drawers", x.count(0), 16);
        x.undo();
        due("with room again", x.build(NONE, 0, 0, 0), 15);
    }

    @Says(in = "Promise 2", words = "NOT_POSSIBLE in a game.")
    static void buildInAGame() {
        DrawerCabinet x = game("ch");
        due("in a game", x.build(NONE, 0, 0, 0), NOT_POSSIBLE);
        due("in a drawer", x.build(0, 1, 0, 0), NOT_POSSIBLE);
        due("drawers", x.count(0), 1);
        x.giveUp();
        due("after it", x.build(NONE, 0, 0, 0), 1);
    }

    @Says(in = "Promise 2", words = "UNKNOWN (outer); BAD_VALUE; FULL if there are 16; NOT_POSSIBLE in a game.")
    static void buildOrderOfErrors() {
        DrawerCabinet x = cabinet("ch;".repeat(15) + "ch");
        due("unknown before bad value", x.build(16, 4, 0, 0), UNKNOWN);
        due("unknown before full", x.build(16, 0, 0, 0), UNKNOWN);
        due("bad value before full", x.build(NONE, 0, 0, 10), BAD_VALUE);
        x.begin();
        due("unknown before a game", x.build(-1, 0, 0, 0), UNKNOWN);
        due("bad value before a game", x.build(15, 1, 10, 0), BAD_VALUE);
        due("full before a game", x.build(15, 0, 0, 0), FULL);
        DrawerCabinet y = game("ch");
        due("unknown before a game", y.build(1, 0, 0, 0), UNKNOWN);
        due("bad value before a game", y.build(0, 2, 16, 0), BAD_VALUE);
    }

    // ---- setBottoms

    @Says(in = "Promise 4", words = {
        "`int setBottoms(int drawer, int bottoms)`: Gives a drawer false bottoms;", "Returns the previous number;"})
    static void setBottomsAnswersThePreviousNumber() {
        DrawerCabinet x = cabinet("ch;ch*2");
        int[][] rows = {{0, 3, 0}, {0, 1, 3}, {0, 2, 1}, {0, 0, 2}, {1, 3, 2}, {1, 0, 3}, {0, 1, 0}};
        for (int[] row : rows) {
            due("drawer " + row[0] + " bottoms " + row[1], x.setBottoms(row[0], row[1]), row[2]);
            due("told", x.drawer(row[0], 4), row[1]);
        }
        due("the other one", x.drawer(1, 4), 0);
    }

    @Says(in = "Promise 4", words = "things in it that would be deeper come to the deepest place.")
    static void setBottomsRaisesThings() {
        DrawerCabinet x = cabinet("ch*3;ch*3");
        for (int depth = 0; depth <= 3; depth++) {
            x.lay(depth, 0, depth);
            x.lay(11 - depth, 1, depth);
        }
        due("to 2", x.setBottoms(0, 2), 3);
        int[] want = {0, 1, 2, 2};
        for (int thing = 0; thing < 4; thing++) {
            due("depth of " + thing, x.thing(thing, 1), want[thing]);
            due("in the other drawer", x.thing(11 - thing, 1), thing);
            due("its place stays", x.thing(thing, 0), 0);
        }
        due("to none", x.setBottoms(0, 0), 2);
        for (int thing = 0; thing < 4; thing++) {
            due("depth of " + thing, x.thing(thing, 1), 0);
        }
        due("things in it", x.drawer(0, 9), 4);
    }

    @Says(in = "Promise 4", words = "things in it that would be deeper come to the deepest place.")
    static void setBottomsLeavesThingsThatAreNotDeeper() {
        DrawerCabinet x = cabinet("ch*3");
        x.lay(0, 0, 3);
        x.lay(1, 0, 1);
        x.setBottoms(0, 2);
        x.setBottoms(0, 3);
        due("a raised one stays raised", x.thing(0, 1), 2);
        due("a higher one stays", x.thing(1, 1), 1);
        x.undo();
        x.undo();
        due("undone", x.thing(0, 1), 3);
    }

    @Says(in = "Promise 4", words = "This is an act.")
    static void setBottomsIsAnAct() {
        DrawerCabinet x = cabinet("ch*2;ch");
        x.lay(5, 0, 2);
        Told.recorded(x, 2, y -> y.setBottoms(0, 1));
        due("told", x.drawer(0, 4), 1);
        due("the thing", x.thing(5, 1), 1);
    }

    @Says(in = "Promise 4", words = {"`drawer`: a drawer", "UNKNOWN;"})
    static void setBottomsOfNoDrawer() {
        DrawerCabinet x = cabinet("ch;ch");
        due("NONE", x.setBottoms(NONE, 1), UNKNOWN);
        for (int drawer : noDrawers(2)) {
            due("drawer " + drawer, x.setBottoms(drawer, 1), UNKNOWN);
        }
        due("the last one", x.setBottoms(1, 1), 0);
        due("without drawers", new DrawerCabinet().setBottoms(0, 1), UNKNOWN);
    }

    @Says(in = "Promise 4", words = {"`bottoms`: 0 to 3", "BAD_VALUE;"})
    static void setBottomsOutOfRange() {
        DrawerCabinet x = cabinet("ch*1");
        int[] numbers = {-1, 4, NONE, 5, 16, 32, Integer.MAX_VALUE, Integer.MIN_VALUE};
        for (int bottoms : numbers) {
            due("bottoms " + bottoms, x.setBottoms(0, bottoms), BAD_VALUE);
        }
        due("told", x.drawer(0, 4), 1);
        due("the most", x.setBottoms(0, 3), 1);
        due("none", x.setBottoms(0, 0), 3);
    }

    @Says(in = "Promise 4", words = "NOT_POSSIBLE in a game;")
    static void setBottomsInAGame() {
        DrawerCabinet x = game("ch*1");
        due("in a game", x.setBottoms(0, 2), NOT_POSSIBLE);
        x.open(0);
        due("of an open one", x.setBottoms(0, 0), NOT_POSSIBLE);
        due("told", x.drawer(0, 4), 1);
        x.giveUp();
        due("after it", x.setBottoms(0, 2), 1);
    }

    @Says(in = "Promise 4", words = "NONE if it has so many already.")
    static void setBottomsToWhatItHas() {
        DrawerCabinet x = cabinet("ch");
        for (int bottoms = 0; bottoms <= 3; bottoms++) {
            if (bottoms > 0) {
                due("to " + bottoms, x.setBottoms(0, bottoms), bottoms - 1);
            }
            due("again to " + bottoms, x.setBottoms(0, bottoms), NONE);
            due("history", x.count(9), bottoms + 1);
        }
    }

    @Says(in = "Promise 4", words = "UNKNOWN; BAD_VALUE; NOT_POSSIBLE in a game; NONE if it has so many already.")
    static void setBottomsOrderOfErrors() {
        DrawerCabinet x = game("ch*1");
        due("unknown before bad value", x.setBottoms(1, 4), UNKNOWN);
        due("unknown before a game", x.setBottoms(1, 1), UNKNOWN);
        due("bad value before a game", x.setBottoms(0, -1), BAD_VALUE);
        due("a game before none", x.setBottoms(0, 1), NOT_POSSIBLE);
    }

    // ---- lay

    @Says(in = "Promise 5", words = {
        "`int lay(int thing, int drawer, int depth)`: Lays a thing somewhere.",
        "Returns how many things lie in drawers then;"})
    static void layAnswersHowManyLieInDrawers() {
        DrawerCabinet x = cabinet("ch*1;0h");
        for (int thing = 0; thing < 12; thing++) {
            due("thing " + thing, x.lay(thing, thing % 2, 0), thing + 1);
        }
        due("to another drawer", x.lay(0, 1, 0), 12);
        due("to another depth", x.lay(2, 0, 1), 12);
        due("to the table", x.lay(3, NONE, 0), 11);
        due("place", x.thing(3, 0), NONE);
        due("place", x.thing(2, 0), 0);
        due("depth", x.thing(2, 1), 1);
    }

    @Says(in = "Promise 5", words = "This is an act.")
    static void layIsAnAct() {
        DrawerCabinet x = cabinet("ch*2;ch");
        x.lay(10, 1, 0);
        Told.recorded(x, 2, y -> y.lay(11, 0, 2));
        due("place", x.thing(11, 0), 0);
        due("depth", x.thing(11, 1), 2);
        x.undo();
        Told.recorded(x, 0, y -> y.lay(10, NONE, 0));
    }

    @Says(in = "Promise 5", words = {"`thing`: 0 to 11", "UNKNOWN (thing or drawer);"})
    static void layNoThing() {
        DrawerCabinet x = cabinet("ch");
        due("NONE", x.lay(NONE, 0, 0), UNKNOWN);
        for (int thing : noThings()) {
            due("thing " + thing, x.lay(thing, 0, 0), UNKNOWN);
        }
        due("in drawers", x.drawer(0, 9), 0);
        due("the first", x.lay(0, 0, 0), 1);
        due("the last", x.lay(11, 0, 0), 2);
    }

    @Says(in = "Promise 5", words = {"`drawer`: a drawer,", "UNKNOWN (thing or drawer);"})
    static void layInNoDrawer() {
        DrawerCabinet x = cabinet("ch;ch");
        for (int drawer : noDrawers(2)) {
            due("drawer " + drawer, x.lay(4, drawer, 0), UNKNOWN);
        }
        due("place", x.thing(4, 0), NONE);
        due("the last one", x.lay(4, 1, 0), 1);
        due("without drawers", new DrawerCabinet().lay(4, 0, 0), UNKNOWN);
    }

    @Says(in = "Promise 5", words = {"or NONE for the table", "(0 for the table)"})
    static void layOnTheTable() {
        DrawerCabinet x = cabinet("ch*3");
        x.lay(6, 0, 3);
        due("deeper than the table", x.lay(6, NONE, 1), BAD_VALUE);
        due("as deep as the drawer", x.lay(6, NONE, 3), BAD_VALUE);
        due("higher than the table", x.lay(6, NONE, -1), BAD_VALUE);
        due("still in the drawer", x.thing(6, 1), 3);
        due("on the table", x.lay(6, NONE, 0), 0);
        due("place", x.thing(6, 0), NONE);
        due("depth", x.thing(6, 1), 0);
    }

    @Says(in = "Promise 5", words = {"`depth`: 0 to the bottoms of the drawer", "BAD_VALUE;"})
    static void layAtEachDepth() {
        DrawerCabinet x = cabinet("ch;ch*1;ch*2;ch*3");
        for (int drawer = 0; drawer < 4; drawer++) {
            due("too high", x.lay(7, drawer, -1), BAD_VALUE);
            due("too deep", x.lay(7, drawer, drawer + 1), BAD_VALUE);
            due("far too deep", x.lay(7, drawer, Integer.MAX_VALUE), BAD_VALUE);
            due("far too high", x.lay(7, drawer, Integer.MIN_VALUE), BAD_VALUE);
            due("as NONE", x.lay(7, drawer, NONE), BAD_VALUE);
            for (int depth = 0; depth <= drawer; depth++) {
                due("drawer " + drawer + " depth " + depth, x.lay(7, drawer, depth), 1);
                due("told", x.thing(7, 1), depth);
            }
        }
    }

    @Says(in = "Promise 5", words = "NOT_POSSIBLE in a game;")
    static void layInAGame() {
        DrawerCabinet x = game("ch");
        due("in a drawer", x.lay(0, 0, 0), NOT_POSSIBLE);
        x.open(0);
        x.take(0);
        due("what is in hand", x.lay(0, 0, 0), NOT_POSSIBLE);
        due("back on the table", x.lay(0, NONE, 0), NOT_POSSIBLE);
        due("it stays in hand", x.thing(0, 2), 1);
        x.giveUp();
        due("after it", x.lay(0, 0, 0), 1);
    }

    @Says(in = "Promise 5", words = "NONE if it lies there already.")
    static void layWhereItLies() {
        DrawerCabinet x = cabinet("ch*1;ch*1");
        due("on the table", x.lay(8, NONE, 0), NONE);
        due("in a drawer", x.lay(8, 0, 0), 1);
        due("again", x.lay(8, 0, 0), NONE);
        due("deeper", x.lay(8, 0, 1), 1);
        due("again", x.lay(8, 0, 1), NONE);
        due("as deep in the other one", x.lay(8, 1, 1), 1);
        due("history", x.count(9), 4);
        due("another thing", x.lay(9, 1, 1), 2);
    }

    @Says(in = "Promise 5", words =
        "UNKNOWN (thing or drawer); BAD_VALUE; NOT_POSSIBLE in a game; NONE if it lies there already.")
    static void layOrderOfErrors() {
        DrawerCabinet x = game("ch");
        due("unknown thing before bad value", x.lay(12, 0, 1), UNKNOWN);
        due("unknown drawer before bad value", x.lay(0, 1, -1), UNKNOWN);
        due("unknown before a game", x.lay(0, 1, 0), UNKNOWN);
        due("bad value before a game", x.lay(0, 0, 1), BAD_VALUE);
        due("bad value before none", x.lay(0, NONE, 1), BAD_VALUE);
        due("a game before none", x.lay(0, NONE, 0), NOT_POSSIBLE);
    }
}
