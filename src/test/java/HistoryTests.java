/** The Terms' HISTORY, and promises 15 to 17, sentence by sentence: undo, keep, restore. */
public final class HistoryTests extends Check {
    private static final String TERMS = "HISTORY";

    public static void main(String[] args) {
        Sentences.run(HistoryTests.class, TERMS, "Promise 15", "Promise 16", "Promise 17");
    }

    /** A game with something of each kind in its state; three drawers. */
    private static DrawerCabinet played() {
        DrawerCabinet x = new DrawerCabinet();
        x.build(NONE, 3, 0, 5);
        type(x, "0k1*1;cl0");
        x.buildAll();
        x.setBottoms(0, 2);
        x.lay(1, 0, 1);
        x.lay(2, 1, 1);
        x.begin();
        x.take(10);
        x.open(0);
        x.lift(0);
        x.take(1);
        return x;
    }

    private static void dueDrawer(DrawerCabinet x, int drawer, int... want) {
        for (int what = 0; what < want.length; what++) {
            due("drawer(" + drawer + ", " + what + ")", x.drawer(drawer, what), want[what]);
        }
    }

    // ---- the history

    @Says(in = TERMS, words = "A history of at most 4 states is kept;")
    static void atMostFourStates() {
        DrawerCabinet x = new DrawerCabinet();
        for (int i = 1; i <= 16; i++) {
            due("states before", x.count(9), Math.min(4, i - 1));
            x.build(NONE, 0, 0, 0);
            due("states", x.count(9), Math.min(4, i));
        }
        for (int left = 3; left >= 0; left--) {
            due("undo", x.undo(), left);
        }
        due("no fifth", x.undo(), NONE);
        due("drawers", x.count(0), 12);
    }

    @Says(in = TERMS, words = "when one more is recorded, the oldest one is dropped;")
    static void theOldestIsDropped() {
        DrawerCabinet x = new DrawerCabinet();
        for (int stiffness = 0; stiffness < 5; stiffness++) {
            x.build(NONE, 0, 0, stiffness);
        }
        for (int left = 3; left >= 0; left--) {
            due("undo", x.undo(), left);
            due("drawers", x.count(0), left + 1);
        }
        due("the empty cabinet is not among them", x.undo(), NONE);
        due("the first drawer stays", x.drawer(0, 3), 0);
    }

    @Says(in = TERMS, words = "when one more is recorded, the oldest one is dropped;")
    static void manyAreDropped() {
        DrawerCabinet x = game("ch");
        for (int i = 0; i < 20; i++) {
            x.open(0);
            x.close(0);
        }
        for (int left = 3; left >= 0; left--) {
            due("undo", x.undo(), left);
            due("steps", x.count(5), 36 + left);
            due("open", x.count(2), left % 2);
        }
        due("no more", x.undo(), NONE);
    }

    @Says(in = TERMS, words = "undo() removes and restores the latest one.")
    static void undoTheLatest() {
        DrawerCabinet x = cabinet("ch");
        x.lay(0, 0, 0);
        x.lay(1, 0, 0);
        due("undo", x.undo(), 2);
        due("the latest is undone", x.thing(1, 0), NONE);
        due("the one before is not", x.thing(0, 0), 0);
        due("another act", x.lay(2, 0, 0), 2);
        due("undo", x.undo(), 2);
        due("that one is undone", x.thing(2, 0), NONE);
        due("undo", x.undo(), 1);
        due("then the one before", x.thing(0, 0), NONE);
    }

    @Says(in = TERMS, words =
        "Each call of a method that is described as an act, and returns no error and not NONE, records the state that was before it.")
    static void eachActIsRecorded() {
        DrawerCabinet text = new DrawerCabinet();
        type(text, "ch;0s*1");
        Told.recorded(text, 2, DrawerCabinet::buildAll);
        Told.recorded(new DrawerCabinet(), 0, x -> x.build(NONE, 3, 0, 9));
        Told.recorded(cabinet("cs"), 0, x -> x.setBottoms(0, 1));
        Told.recorded(cabinet("cs*1"), 1, x -> x.lay(0, 0, 1));
        Told.recorded(cabinet("cs*1"), 1, DrawerCabinet::begin);
        Told.recorded(played(), 4, DrawerCabinet::giveUp);
        Told.recorded(played(), 2, x -> x.open(1));
        Told.recorded(played(), 0, x -> x.close(0));
        Told.recorded(played(), 2, x -> x.lift(0));
        Told.recorded(played(), 3, x -> x.take(11));
        DrawerCabinet broken = played();
        broken.take(11);
        broken.close(0);
        Told.recorded(broken, 0, x -> x.seal(0));
        Told.recorded(played(), 3, DrawerCabinet::restore);
    }

    @Says(in = TERMS, words = "described as an act,")
    static void whatIsNoActIsNotRecorded() {
        DrawerCabinet x = game("ch");
        due("states", x.count(9), 2);
        x.type('c');
        x.clearText();
        x.keep();
        x.drawer(0, 0);
        x.thing(0, 0);
        x.needs(0, 0);
        x.hint(0);
        x.minutes();
        x.minutesBits();
        due("states", x.count(9), 2);
        x.undo();
        due("undo itself is not recorded", x.count(9), 1);
    }

    @Says(in = TERMS, words = "and returns no error and not NONE,")
    static void whatAnswersAnErrorOrNoneIsNotRecorded() {
        DrawerCabinet x = cabinet("ch");
        type(x, "x");
        x.build(0, 9, 0, 0);
        x.buildAll();
        x.setBottoms(0, 0);
        x.lay(0, NONE, 0);
        x.giveUp();
        x.open(0);
        x.restore();
        due("states without a game", x.count(9), 1);
        x.begin();
        x.begin();
        x.close(0);
        x.lift(0);
        x.seal(0);
        x.take(12);
        x.build(NONE, 0, 0, 0);
        due("states in a game", x.count(9), 2);
    }

    @Says(in = TERMS, words = "records the state that was before it.")
    static void anActWithoutAChangeIsRecordedToo() {
        DrawerCabinet x = cabinet("ch");
        x.keep();
        due("restore what is there", x.restore(), 1);
        due("states", x.count(9), 2);
        due("undo", x.undo(), 1);
        due("drawers", x.count(0), 1);
    }

    @Says(in = TERMS, words = "There is one snapshot, empty at first.")
    static void oneSnapshotEmptyAtFirst() {
        DrawerCabinet x = cabinet("ch");
        due("at first", x.restore(), NONE);
        x.keep();
        x.build(NONE, 0, 0, 0);
        x.keep();
        x.build(NONE, 0, 0, 0);
        due("the second one", x.restore(), 2);
        due("again the second one", x.restore(), 2);
    }

    @Says(in = TERMS, words = "A state is everything but the text, the history and the snapshot.")
    static void undoBringsEverythingBack() {
        DrawerCabinet x = played();
        int[] before = Told.state(x);
        x.giveUp();
        x.lay(1, 1, 0);
        x.setBottoms(0, 1);
        x.build(1, 2, 9, 9);
        for (int left = 3; left >= 0; left--) {
            due("undo", x.undo(), left);
        }
        Told.same("the state", Told.state(x), before);
        due("the game goes on", x.open(1), 2);
    }

    @Says(in = TERMS, words = "A state is everything but the text, the history and the snapshot.")
    static void undoBringsOtherDrawersBack() {
        DrawerCabinet x = new DrawerCabinet();
        x.build(NONE, 2, 3, 7);
        x.undo();
        x.build(NONE, 1, 4, 6);
        x.undo();
        x.keep();
        x.build(NONE, 3, 0, 5);
        x.restore();
        x.build(NONE, 0, 0, 4);
        due("the last one's hold", x.drawer(0, 1), 0);
        due("the last one's stiffness", x.drawer(0, 3), 4);
        x.undo();
        x.undo();
        due("the sealed one's hold", x.drawer(0, 1), 3);
        due("the sealed one's stiffness", x.drawer(0, 3), 5);
    }

    @Says(in = TERMS, words = "A state is everything but the text, the history and the snapshot.")
    static void undoBringsSixteenDrawersBack() {
        DrawerCabinet x = new DrawerCabinet();
        for (int drawer = 0; drawer < 16; drawer++) {
            x.build(drawer < 12 ? NONE : drawer - 12, drawer < 12 ? 0 : 3, 0, drawer % 10);
            x.setBottoms(drawer, 1 + drawer % 3);
        }
        x.lay(11, 15, 1);
        x.begin();
        x.take(10);
        x.open(3);
        x.open(15);
        x.keep();
        x.lift(15);
        dueDrawer(x, 15, 3, 3, NONE, 5, 1, 1, 1, 1, 1, 1, 1);
        x.undo();
        dueDrawer(x, 15, 3, 3, NONE, 5, 1, 0, 1, 1, 1, 1, 1);
        x.lift(15);
        x.take(11);
        x.giveUp();
        dueDrawer(x, 15, 3, 3, NONE, 5, 1, 0, 0, 0, 0, 1, 1);
        x.undo();
        dueDrawer(x, 15, 3, 3, NONE, 5, 1, 1, 1, 1, 1, 0, 1);
        x.giveUp();
        x.setBottoms(15, 3);
        x.lay(11, NONE, 0);
        x.restore();
        dueDrawer(x, 15, 3, 3, NONE, 5, 1, 0, 1, 1, 1, 1, 1);
    }

    @Says(in = TERMS, words = "everything but the text,")
    static void theTextIsNotInAState() {
        DrawerCabinet x = cabinet("ch;0h");
        x.keep();
        x.clearText();
        x.type('c');
        x.undo();
        due("undo leaves it", x.count(10), 1);
        x.restore();
        due("restore leaves it", x.count(10), 1);
        x.type('s');
        due("it is read as it is", x.buildAll(), 1);
    }

    @Says(in = TERMS, words = "the history")
    static void theHistoryIsNotInAState() {
        DrawerCabinet x = cabinet("ch");
        x.keep();
        x.build(NONE, 0, 0, 0);
        x.build(NONE, 0, 0, 0);
        x.restore();
        due("restore leaves it, with one more", x.count(9), 4);
        due("undo", x.undo(), 3);
        due("drawers", x.count(0), 3);
        due("undo", x.undo(), 2);
        due("drawers", x.count(0), 2);
    }

    @Says(in = TERMS, words = "and the snapshot.")
    static void theSnapshotIsNotInAState() {
        DrawerCabinet x = cabinet("ch");
        x.build(NONE, 0, 0, 0);
        x.keep();
        x.undo();
        x.undo();
        due("undo leaves it", x.restore(), 2);
        x.build(NONE, 0, 0, 0);
        x.keep();
        x.undo();
        due("the newer one", x.restore(), 3);
    }

    // ---- undo

    @Says(in = "Promise 15", words = {
        "`int undo()`: Removes and restores the latest state of the history.",
        "Returns the number of states that are left;"})
    static void undoAnswersHowManyAreLeft() {
        DrawerCabinet x = new DrawerCabinet();
        for (int i = 0; i < 6; i++) {
            x.build(NONE, 0, 0, i);
        }
        for (int left = 3; left >= 0; left--) {
            due("undo", x.undo(), left);
            due("states", x.count(9), left);
            due("drawers", x.count(0), left + 2);
            due("the drawer that was undone", x.drawer(left + 2, 0), UNKNOWN);
        }
        due("builds on", x.build(NONE, 3, 0, 8), 2);
        due("as a new one", x.drawer(2, 3), 8);
        due("undo", x.undo(), 0);
    }

    @Says(in = "Promise 15", words = "restores the latest state")
    static void undoOfAWholeGame() {
        DrawerCabinet x = cabinet("ch;0h");
        x.lay(0, 1, 0);
        x.begin();
        x.open(0);
        x.undo();
        due("the game is there still", x.count(1), 1);
        due("without its step", x.count(5), 0);
        x.undo();
        due("the beginning is undone", x.count(1), 0);
        x.undo();
        due("then the laying", x.thing(0, 0), NONE);
        x.undo();
        due("then the building", x.count(0), 0);
    }

    @Says(in = "Promise 15", words = "NONE if the history is empty.")
    static void undoOfNothing() {
        DrawerCabinet x = new DrawerCabinet();
        due("a new object", x.undo(), NONE);
        due("states", x.count(9), 0);
        x.build(NONE, 0, 0, 0);
        due("the last one", x.undo(), 0);
        due("no more", x.undo(), NONE);
        due("no more still", x.undo(), NONE);
        x.build(NONE, 0, 0, 0);
        due("there is one again", x.undo(), 0);
    }

    // ---- keep

    @Says(in = "Promise 16", words = {
        "`int keep()`: Takes a snapshot of the state,", "Returns how many drawers there are."})
    static void keepAnswersHowManyDrawers() {
        DrawerCabinet x = new DrawerCabinet();
        due("none", x.keep(), 0);
        due("an empty cabinet is a snapshot, too", x.restore(), 0);
        type(x, "ch;".repeat(15) + "ch");
        x.buildAll();
        due("sixteen", x.keep(), 16);
        x.begin();
        due("in a game", x.keep(), 16);
    }

    @Says(in = "Promise 16", words = "Takes a snapshot of the state,")
    static void keepIsNoActAndChangesNothing() {
        DrawerCabinet x = played();
        int[] before = Told.state(x);
        due("keep", x.keep(), 3);
        Told.same("the state", Told.state(x), before);
        due("states", x.count(9), 4);
        due("undo takes the last step back", x.undo(), 3);
        due("that is the taking", x.thing(1, 2), 0);
    }

    @Says(in = "Promise 16", words = "Takes a snapshot of the state,")
    static void keepDoesNotFollowTheState() {
        DrawerCabinet x = played();
        int[] kept = Told.state(x);
        x.keep();
        x.open(1);
        x.lift(0);
        x.close(0);
        x.giveUp();
        x.lay(1, NONE, 0);
        x.setBottoms(1, 3);
        due("restore", x.restore(), 3);
        Told.same("the state", Told.state(x), kept);
        x.open(1);
        x.restore();
        Told.same("the state once more", Told.state(x), kept);
    }

    @Says(in = "Promise 16", words = "in place of the one that was.")
    static void keepInPlaceOfTheOldOne() {
        DrawerCabinet x = new DrawerCabinet();
        x.keep();
        x.build(NONE, 2, 5, 9);
        x.build(0, 2, 6, 8);
        x.build(1, 1, 7, 7);
        x.setBottoms(2, 3);
        x.lay(4, 2, 3);
        x.keep();
        int[] kept = Told.state(x);
        for (int i = 0; i < 4; i++) {
            x.undo();
        }
        due("restore", x.restore(), 3);
        Told.same("the state", Told.state(x), kept);
        DrawerCabinet y = cabinet("cs*3;0k1");
        y.keep();
        y.undo();
        y.keep();
        due("fewer drawers in place of more", y.restore(), 0);
        y.build(NONE, 0, 0, 0);
        due("and nothing of the old ones", y.drawer(0, 1) + y.drawer(0, 4), 0);
    }

    @Says(in = "Promise 16", words = "Takes a snapshot of the state,")
    static void keepKeepsEveryPartOfADrawer() {
        DrawerCabinet x = new DrawerCabinet();
        x.build(NONE, 0, 0, 1);
        x.build(0, 1, 2, 3);
        x.setBottoms(1, 2);
        x.lay(2, 1, 2);
        x.keep();
        for (int i = 0; i < 4; i++) {
            x.undo();
        }
        x.build(NONE, 3, 0, 9);
        x.build(NONE, 2, 0, 8);
        x.setBottoms(1, 3);
        x.lay(2, 0, 0);
        x.restore();
        dueDrawer(x, 0, NONE, 0, NONE, 1, 0, 0, 0, 0, 1, 0, 0);
        dueDrawer(x, 1, 0, 1, 2, 3, 2, 0, 0, 0, 0, 1, 1);
        due("the thing", x.thing(2, 1), 2);
    }

    @Says(in = "Promise 16", words = "Takes a snapshot of the state,")
    static void keepKeepsTheSixteenthDrawer() {
        DrawerCabinet x = cabinet("ch;".repeat(14) + "ch");
        x.build(14, 2, 3, 8);
        x.setBottoms(15, 2);
        x.lay(9, 15, 1);
        x.keep();
        for (int i = 0; i < 3; i++) {
            x.undo();
        }
        x.build(NONE, 1, 4, 5);
        x.setBottoms(15, 3);
        x.restore();
        dueDrawer(x, 15, 14, 2, 3, 8, 2, 0, 0, 0, 0, 1, 1);
        x.undo();
        dueDrawer(x, 15, NONE, 1, 4, 5, 3, 0, 0, 0, 1, 0, 0);
    }

    // ---- restore

    @Says(in = "Promise 17", words = {
        "`int restore()`: Restores the state of the snapshot,", "Returns how many drawers there are then;"})
    static void restoreAnswersHowManyDrawers() {
        DrawerCabinet x = cabinet("ch;0h");
        x.keep();
        x.build(NONE, 0, 0, 0);
        due("two", x.restore(), 2);
        due("drawers", x.count(0), 2);
        x.undo();
        x.undo();
        x.undo();
        due("of none", x.count(0), 0);
        due("two", x.restore(), 2);
    }

    @Says(in = "Promise 17", words = "Restores the state of the snapshot,")
    static void restoreIntoAndOutOfAGame() {
        DrawerCabinet x = cabinet("ch;ch");
        x.keep();
        x.begin();
        x.open(0);
        due("out of a game", x.restore(), 2);
        due("no game", x.count(1), 0);
        due("minutes", x.minutes(), -1.0);
        x.undo();
        due("the game again", x.count(2), 1);
        x.keep();
        x.giveUp();
        x.lay(0, 1, 0);
        due("into a game", x.restore(), 2);
        due("it goes on", x.open(1), 2);
        due("the thing is on the table", x.take(0), 1);
    }

    @Says(in = "Promise 17", words = "which stays.")
    static void restoreAgainAndAgain() {
        DrawerCabinet x = played();
        x.keep();
        int[] kept = Told.state(x);
        for (int i = 0; i < 3; i++) {
            x.close(0);
            x.take(5 + i);
            due("restore", x.restore(), 3);
            Told.same("the state", Told.state(x), kept);
        }
        due("states", x.count(9), 4);
    }

    @Says(in = "Promise 17", words = "This is an act.")
    static void restoreIsAnAct() {
        DrawerCabinet x = cabinet("ch*1;0s");
        x.keep();
        x.begin();
        x.open(0);
        int[] before = Told.state(x);
        due("states", x.count(9), 3);
        due("restore", x.restore(), 2);
        due("states", x.count(9), 4);
        due("undo", x.undo(), 3);
        Told.same("the state", Told.state(x), before);
    }

    @Says(in = "Promise 17", words = "NONE if there is no snapshot.")
    static void restoreWithoutASnapshot() {
        DrawerCabinet x = new DrawerCabinet();
        due("a new object", x.restore(), NONE);
        x.build(NONE, 0, 0, 0);
        x.undo();
        x.build(NONE, 3, 0, 0);
        due("with drawers", x.restore(), NONE);
        due("drawers", x.count(0), 1);
        due("states", x.count(9), 1);
        x.begin();
        due("in a game", x.restore(), NONE);
        due("the game goes on", x.count(1), 1);
    }
}
