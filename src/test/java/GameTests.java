/** Promises 6 to 12, sentence by sentence: begin, giveUp, open, close, lift, take, seal. */
public final class GameTests extends Check {
    public static void main(String[] args) {
        Sentences.run(GameTests.class,
            "Promise 6", "Promise 7", "Promise 8", "Promise 9", "Promise 10", "Promise 11", "Promise 12");
    }

    // ---- begin

    @Says(in = "Promise 6", words = {"`int begin()`: Begins a game.", "Returns how many drawers there are;"})
    static void beginAnswersHowManyDrawers() {
        due("one", cabinet("ch").begin(), 1);
        DrawerCabinet x = cabinet("ch;".repeat(15) + "ch");
        due("sixteen", x.begin(), 16);
        due("there is a game", x.count(1), 1);
    }

    @Says(in = "Promise 6", words = "This is an act.")
    static void beginIsAnAct() {
        DrawerCabinet x = cabinet("cs*1;0h");
        x.lay(3, 0, 1);
        Told.recorded(x, 2, DrawerCabinet::begin);
        due("there is a game", x.count(1), 1);
    }

    @Says(in = "Promise 6", words = "NOT_POSSIBLE if there is a game,")
    static void beginInAGame() {
        DrawerCabinet x = game("ch");
        x.open(0);
        due("again", x.begin(), NOT_POSSIBLE);
        due("the game goes on", x.count(5), 1);
        x.giveUp();
        due("after it", x.begin(), 1);
    }

    @Says(in = "Promise 6", words = "or no drawer,")
    static void beginWithoutDrawers() {
        DrawerCabinet x = new DrawerCabinet();
        due("an empty cabinet", x.begin(), NOT_POSSIBLE);
        due("no game", x.count(1), 0);
        due("no state", x.count(9), 0);
        x.build(NONE, 0, 0, 0);
        x.undo();
        due("empty again", x.begin(), NOT_POSSIBLE);
    }

    @Says(in = "Promise 6", words = "or a holder is not there.")
    static void beginWithoutAHolder() {
        DrawerCabinet x = cabinet("cl2;ch");
        due("the next number", x.begin(), NOT_POSSIBLE);
        x.build(NONE, 0, 0, 0);
        due("it is there", x.begin(), 3);
        DrawerCabinet y = cabinet("ch;".repeat(14) + "cl15");
        due("the last number", y.begin(), NOT_POSSIBLE);
        y.build(0, 0, 0, 0);
        due("it is there", y.begin(), 16);
    }

    @Says(in = "Promise 6", words = "or a holder is not there.")
    static void beginWithAnyHoldThatIsThere() {
        due("its own holder", cabinet("cl0").begin(), 1);
        due("levers in a ring", cabinet("cl1;cl0").begin(), 2);
        due("a key of any number", cabinet("ck9").begin(), 1);
        due("one of two is not there", cabinet("cl0;cl2").begin(), NOT_POSSIBLE);
        DrawerCabinet x = cabinet("ck9;0h");
        x.lay(9, 1, 0);
        due("a key that cannot be had", x.begin(), 2);
    }

    // ---- giveUp

    @Says(in = "Promise 7", words = {"`int giveUp()`: Gives the game up.", "Returns how many steps were made;"})
    static void giveUpAnswersTheSteps() {
        DrawerCabinet x = game("cs*1;ch");
        due("none", x.giveUp(), 0);
        due("no game", x.count(1), 0);
        x.begin();
        x.open(0);
        x.take(10);
        x.lift(0);
        x.lift(0);
        x.close(0);
        due("four", x.giveUp(), 4);
        due("no steps are left", x.count(5), 0);
        x.begin();
        due("none in a new game", x.giveUp(), 0);
    }

    @Says(in = "Promise 7", words = "Gives the game up.")
    static void giveUpPutsEveryDrawerBack() {
        DrawerCabinet x = cabinet("cs*1;" + "ch;".repeat(14) + "cs*3");
        x.begin();
        x.take(10);
        for (int drawer = 0; drawer < 16; drawer += 15) {
            x.open(drawer);
            x.lift(drawer);
        }
        due("steps", x.giveUp(), 5);
        x.begin();
        for (int drawer = 0; drawer < 16; drawer += 15) {
            due("open", x.drawer(drawer, 6), 0);
            due("broken", x.drawer(drawer, 7), 0);
            due("lifted", x.drawer(drawer, 5), 0);
        }
    }

    @Says(in = "Promise 7", words = "This is an act.")
    static void giveUpIsAnAct() {
        DrawerCabinet x = game("cs");
        x.open(0);
        Told.recorded(x, 1, DrawerCabinet::giveUp);
        due("no game", x.count(1), 0);
        x.undo();
        due("the game goes on", x.close(0), 0);
    }

    @Says(in = "Promise 7", words = "NOT_POSSIBLE if there is none.")
    static void giveUpNoGame() {
        due("a new object", new DrawerCabinet().giveUp(), NOT_POSSIBLE);
        DrawerCabinet x = cabinet("ch");
        due("before a game", x.giveUp(), NOT_POSSIBLE);
        x.begin();
        x.giveUp();
        due("after a game", x.giveUp(), NOT_POSSIBLE);
        due("states", x.count(9), 3);
    }

    // ---- open

    @Says(in = "Promise 8", words = {
        "`int open(int drawer)`: Opens a drawer.", "Returns how many drawers are open then;"})
    static void openAnswersHowManyAreOpen() {
        DrawerCabinet x = game("ch;".repeat(15) + "ch");
        for (int drawer = 15; drawer >= 0; drawer--) {
            due("open", x.open(drawer), 16 - drawer);
            due("open drawers", x.count(2), 16 - drawer);
            due("it is open", x.drawer(drawer, 6), 1);
        }
        x.close(3);
        due("with one closed between", x.open(3), 16);
    }

    @Says(in = "Promise 8", words = "Returns how many drawers are open then;")
    static void openCountsThoseThatAreNotReached() {
        DrawerCabinet x = game("ch;0h;ch");
        x.open(0);
        x.open(1);
        x.close(0);
        due("with one that is not reached", x.open(2), 2);
    }

    @Says(in = "Promise 8", words = "This is an act.")
    static void openIsAnAct() {
        DrawerCabinet x = game("cs;ch");
        Told.recorded(x, 1, y -> y.open(0));
        due("broken", x.drawer(0, 7), 1);
        x.undo();
        due("undone, it is whole", x.drawer(0, 7), 0);
    }

    @Says(in = "Promise 8", words = {"`drawer`: a drawer", "UNKNOWN;"})
    static void openNoDrawer() {
        DrawerCabinet x = game("ch;ch");
        due("NONE", x.open(NONE), UNKNOWN);
        for (int drawer : noDrawers(2)) {
            due("drawer " + drawer, x.open(drawer), UNKNOWN);
        }
        due("open drawers", x.count(2), 0);
        due("the last one", x.open(1), 1);
    }

    @Says(in = "Promise 8", words = "NOT_POSSIBLE without a game,")
    static void openWithoutAGame() {
        DrawerCabinet x = cabinet("ch;cs");
        due("before a game", x.open(0), NOT_POSSIBLE);
        x.begin();
        x.open(0);
        x.giveUp();
        due("after a game", x.open(0), NOT_POSSIBLE);
        due("a seal", x.open(1), NOT_POSSIBLE);
        due("nothing is broken", x.count(4), 0);
    }

    @Says(in = "Promise 8", words = "or if it is closed and cannot be opened;")
    static void openWhatCannotBeOpened() {
        DrawerCabinet x = game("ch;0h;ck0;cl0;cl4");
        due("not reached", x.open(1), NOT_POSSIBLE);
        due("locked", x.open(2), NOT_POSSIBLE);
        due("held", x.open(3), NOT_POSSIBLE);
        due("held by itself", x.open(4), NOT_POSSIBLE);
        due("open drawers", x.count(2), 0);
        due("steps", x.count(5), 0);
    }

    @Says(in = "Promise 8", words = "NONE if it is open.")
    static void openWhatIsOpen() {
        DrawerCabinet x = game("ch;0s;cl0");
        x.open(0);
        due("open", x.open(0), NONE);
        x.open(1);
        x.open(2);
        x.close(0);
        due("open, but not reached", x.open(1), NONE);
        due("open, though its holder is closed", x.open(2), NONE);
        due("steps", x.count(5), 4);
    }

    @Says(in = "Promise 8", words = "UNKNOWN; NOT_POSSIBLE without a game,")
    static void openOrderOfErrors() {
        DrawerCabinet x = cabinet("ch");
        due("unknown before no game", x.open(1), UNKNOWN);
        due("unknown before no game", new DrawerCabinet().open(0), UNKNOWN);
    }

    // ---- close

    @Says(in = "Promise 9", words = {
        "`int close(int drawer)`: Closes a drawer.", "Returns how many drawers are open then;"})
    static void closeAnswersHowManyAreOpen() {
        DrawerCabinet x = game("ch;".repeat(15) + "ch");
        for (int drawer = 0; drawer < 16; drawer++) {
            x.open(drawer);
        }
        for (int drawer = 0; drawer < 16; drawer++) {
            due("close", x.close(drawer), 15 - drawer);
            due("it is closed", x.drawer(drawer, 6), 0);
        }
    }

    @Says(in = "Promise 9", words = "Returns how many drawers are open then;")
    static void closeCountsThoseWithin() {
        DrawerCabinet x = game("ch;0h;1h");
        x.open(0);
        x.open(1);
        x.open(2);
        due("two within are open", x.close(0), 2);
    }

    @Says(in = "Promise 9", words = "This is an act.")
    static void closeIsAnAct() {
        DrawerCabinet x = game("cs");
        x.open(0);
        Told.recorded(x, 0, y -> y.close(0));
        due("closed", x.drawer(0, 6), 0);
    }

    @Says(in = "Promise 9", words = {"`drawer`: a drawer", "UNKNOWN;"})
    static void closeNoDrawer() {
        DrawerCabinet x = game("ch;ch");
        x.open(0);
        x.open(1);
        due("NONE", x.close(NONE), UNKNOWN);
        for (int drawer : noDrawers(2)) {
            due("drawer " + drawer, x.close(drawer), UNKNOWN);
        }
        due("open drawers", x.count(2), 2);
        due("the last one", x.close(1), 1);
    }

    @Says(in = "Promise 9", words = "NOT_POSSIBLE without a game,")
    static void closeWithoutAGame() {
        DrawerCabinet x = cabinet("ch");
        due("before a game", x.close(0), NOT_POSSIBLE);
        x.begin();
        x.open(0);
        x.giveUp();
        due("after a game", x.close(0), NOT_POSSIBLE);
    }

    @Says(in = "Promise 9", words = "or if it is open and cannot be reached;")
    static void closeWhatCannotBeReached() {
        DrawerCabinet x = game("ch;0h;1h");
        x.open(0);
        x.open(1);
        x.open(2);
        x.close(0);
        due("within", x.close(1), NOT_POSSIBLE);
        due("two further in", x.close(2), NOT_POSSIBLE);
        due("open drawers", x.count(2), 2);
        due("steps", x.count(5), 4);
    }

    @Says(in = "Promise 9", words = "NONE if it is closed.")
    static void closeWhatIsClosed() {
        DrawerCabinet x = game("ch;0h;ck0");
        due("closed", x.close(0), NONE);
        due("closed and not reached", x.close(1), NONE);
        due("closed and locked", x.close(2), NONE);
        x.open(0);
        x.close(0);
        due("closed again", x.close(0), NONE);
        due("steps", x.count(5), 2);
    }

    @Says(in = "Promise 9", words =
        "UNKNOWN; NOT_POSSIBLE without a game, or if it is open and cannot be reached; NONE if it is closed.")
    static void closeOrderOfErrors() {
        DrawerCabinet x = cabinet("ch");
        due("unknown before no game", x.close(1), UNKNOWN);
        due("no game before none", x.close(0), NOT_POSSIBLE);
    }

    // ---- lift

    @Says(in = "Promise 10", words = {
        "`int lift(int drawer)`: Lifts the next bottom of a drawer.",
        "Returns how many of its bottoms are lifted then;"})
    static void liftAnswersHowManyAreLifted() {
        DrawerCabinet x = game("ch*3;ch*2");
        x.take(10);
        x.open(0);
        x.open(1);
        due("the first", x.lift(0), 1);
        due("the first of the other", x.lift(1), 1);
        due("the second", x.lift(0), 2);
        due("the third", x.lift(0), 3);
        due("told", x.drawer(0, 5), 3);
        due("told of the other", x.drawer(1, 5), 1);
        due("the bottoms stay as many", x.drawer(0, 4), 3);
    }

    @Says(in = "Promise 10", words = "This is an act.")
    static void liftIsAnAct() {
        DrawerCabinet x = cabinet("ch*2");
        x.begin();
        x.take(10);
        x.open(0);
        Told.recorded(x, 1, y -> y.lift(0));
        due("lifted", x.drawer(0, 5), 1);
    }

    @Says(in = "Promise 10", words = {"`drawer`: a drawer", "UNKNOWN;"})
    static void liftInNoDrawer() {
        DrawerCabinet x = game("ch*3;ch*3");
        x.take(10);
        x.open(0);
        x.open(1);
        due("NONE", x.lift(NONE), UNKNOWN);
        for (int drawer : noDrawers(2)) {
            due("drawer " + drawer, x.lift(drawer), UNKNOWN);
        }
        due("lifted", x.drawer(0, 5) + x.drawer(1, 5), 0);
        due("the last one", x.lift(1), 1);
    }

    @Says(in = "Promise 10", words = "NOT_POSSIBLE without a game,")
    static void liftWithoutAGame() {
        DrawerCabinet x = cabinet("ch*1");
        due("before a game", x.lift(0), NOT_POSSIBLE);
        x.begin();
        x.take(10);
        x.open(0);
        x.lift(0);
        x.giveUp();
        due("after a game", x.lift(0), NOT_POSSIBLE);
    }

    @Says(in = "Promise 10", words = "or if a bottom is left and cannot be lifted;")
    static void liftWhatCannotBeLifted() {
        DrawerCabinet x = game("ch*1;0h*1");
        x.open(0);
        due("without the knife", x.lift(0), NOT_POSSIBLE);
        x.take(10);
        due("closed", x.lift(1), NOT_POSSIBLE);
        x.open(1);
        x.close(0);
        due("not reached", x.lift(1), NOT_POSSIBLE);
        due("closed and reached", x.lift(0), NOT_POSSIBLE);
        due("steps", x.count(5), 4);
        due("lifted", x.drawer(0, 5) + x.drawer(1, 5), 0);
    }

    @Says(in = "Promise 10", words = "NONE if all of its bottoms are lifted")
    static void liftWhenAllAreLifted() {
        DrawerCabinet x = game("ch*2;0h*1");
        x.take(10);
        x.open(0);
        x.open(1);
        x.lift(1);
        x.lift(0);
        due("one is left", x.lift(0), 2);
        due("none is left", x.lift(0), NONE);
        x.close(0);
        due("none is left in a closed one", x.lift(0), NONE);
        due("none is left in one that is not reached", x.lift(1), NONE);
        due("steps", x.count(5), 7);
    }

    @Says(in = "Promise 10", words = "(or it has none).")
    static void liftWithoutBottoms() {
        DrawerCabinet x = game("ch;0h");
        due("closed and without the knife", x.lift(0), NONE);
        due("not reached", x.lift(1), NONE);
        x.open(0);
        x.take(10);
        due("open and with the knife", x.lift(0), NONE);
        due("steps", x.count(5), 2);
    }

    @Says(in = "Promise 10", words = "UNKNOWN; NOT_POSSIBLE without a game,")
    static void liftOrderOfErrors() {
        DrawerCabinet x = cabinet("ch");
        due("unknown before no game", x.lift(1), UNKNOWN);
        due("no game before none", x.lift(0), NOT_POSSIBLE);
    }

    // ---- take

    @Says(in = "Promise 11", words = {
        "`int take(int thing)`: Takes a thing.", "Returns how many things are in hand then;"})
    static void takeAnswersHowManyAreInHand() {
        DrawerCabinet x = game("ch");
        for (int thing = 11; thing >= 0; thing--) {
            due("take", x.take(thing), 12 - thing);
            due("in hand", x.thing(thing, 2), 1);
        }
        due("all", x.count(3), 0xfff);
    }

    @Says(in = "Promise 11", words = "This is an act.")
    static void takeIsAnAct() {
        DrawerCabinet x = cabinet("ch");
        x.lay(3, 0, 0);
        x.begin();
        x.open(0);
        Told.recorded(x, 1, y -> y.take(3));
        due("in hand", x.count(3), 8);
    }

    @Says(in = "Promise 11", words = {"`thing`: 0 to 11", "UNKNOWN;"})
    static void takeNoThing() {
        DrawerCabinet x = game("ch");
        due("NONE", x.take(NONE), UNKNOWN);
        for (int thing : noThings()) {
            due("thing " + thing, x.take(thing), UNKNOWN);
        }
        due("in hand", x.count(3), 0);
        due("the first", x.take(0), 1);
        due("the last", x.take(11), 2);
    }

    @Says(in = "Promise 11", words = "NOT_POSSIBLE without a game,")
    static void takeWithoutAGame() {
        DrawerCabinet x = cabinet("ch");
        due("before a game", x.take(0), NOT_POSSIBLE);
        due("without drawers", new DrawerCabinet().take(0), NOT_POSSIBLE);
        x.begin();
        x.take(0);
        x.giveUp();
        due("after a game", x.take(0), NOT_POSSIBLE);
        due("in hand", x.count(3), 0);
    }

    @Says(in = "Promise 11", words = "or if it is not in hand and cannot be taken;")
    static void takeWhatCannotBeTaken() {
        DrawerCabinet x = cabinet("ch*1;0h");
        x.lay(0, 0, 0);
        x.lay(1, 0, 1);
        x.lay(2, 1, 0);
        x.begin();
        due("in a closed one", x.take(0), NOT_POSSIBLE);
        x.open(0);
        due("under a bottom", x.take(1), NOT_POSSIBLE);
        due("in a closed one within", x.take(2), NOT_POSSIBLE);
        x.open(1);
        x.close(0);
        due("in one that is not reached", x.take(2), NOT_POSSIBLE);
        due("in hand", x.count(3), 0);
        due("steps", x.count(5), 3);
    }

    @Says(in = "Promise 11", words = "NONE if it is in hand.")
    static void takeWhatIsInHand() {
        DrawerCabinet x = cabinet("ch");
        x.lay(0, 0, 0);
        x.begin();
        x.open(0);
        x.take(0);
        due("again", x.take(0), NONE);
        x.close(0);
        due("with its drawer closed", x.take(0), NONE);
        due("steps", x.count(5), 3);
        due("in hand", x.count(3), 1);
    }

    @Says(in = "Promise 11", words = "UNKNOWN; NOT_POSSIBLE without a game,")
    static void takeOrderOfErrors() {
        due("unknown before no game", cabinet("ch").take(12), UNKNOWN);
        due("unknown before no game", new DrawerCabinet().take(-1), UNKNOWN);
    }

    // ---- seal

    @Says(in = "Promise 12", words = {
        "`int seal(int drawer)`: Lays the broken seal of a drawer again.", "Returns how many seals are broken then;"})
    static void sealAnswersHowManyAreBroken() {
        DrawerCabinet x = game("cs;".repeat(15) + "cs");
        x.take(11);
        for (int drawer = 0; drawer < 16; drawer++) {
            x.open(drawer);
            x.close(drawer);
        }
        due("all broken", x.count(4), 16);
        for (int drawer = 0; drawer < 16; drawer++) {
            due("seal", x.seal(drawer), 15 - drawer);
            due("it is whole", x.drawer(drawer, 7), 0);
        }
    }

    @Says(in = "Promise 12", words = "Returns how many seals are broken then;")
    static void sealCountsThoseOfOpenDrawersAndWithin() {
        DrawerCabinet x = game("ch;0s;cs;cs");
        x.take(11);
        x.open(0);
        x.open(1);
        x.open(2);
        x.open(3);
        x.close(0);
        x.close(3);
        due("an open one, and one that is not reached", x.seal(3), 2);
    }

    @Says(in = "Promise 12", words = "This is an act.")
    static void sealIsAnAct() {
        DrawerCabinet x = game("cs;cs");
        x.take(11);
        x.open(0);
        x.close(0);
        Told.recorded(x, 0, y -> y.seal(0));
        due("whole", x.drawer(0, 7), 0);
    }

    @Says(in = "Promise 12", words = {"`drawer`: a drawer", "UNKNOWN;"})
    static void sealNoDrawer() {
        DrawerCabinet x = game("cs;cs");
        x.take(11);
        for (int drawer = 0; drawer < 2; drawer++) {
            x.open(drawer);
            x.close(drawer);
        }
        due("NONE", x.seal(NONE), UNKNOWN);
        for (int drawer : noDrawers(2)) {
            due("drawer " + drawer, x.seal(drawer), UNKNOWN);
        }
        due("broken", x.count(4), 2);
        due("the last one", x.seal(1), 1);
    }

    @Says(in = "Promise 12", words = "NOT_POSSIBLE without a game,")
    static void sealWithoutAGame() {
        DrawerCabinet x = cabinet("cs");
        due("before a game", x.seal(0), NOT_POSSIBLE);
        x.begin();
        x.take(11);
        x.open(0);
        x.close(0);
        x.giveUp();
        due("after a game", x.seal(0), NOT_POSSIBLE);
    }

    @Says(in = "Promise 12", words = "or if its seal is broken and cannot be laid;")
    static void sealWhatCannotBeSealed() {
        DrawerCabinet x = game("ch;0s;cs");
        x.open(0);
        x.open(1);
        x.open(2);
        x.close(1);
        due("without the stamp", x.seal(1), NOT_POSSIBLE);
        x.take(11);
        due("open", x.seal(2), NOT_POSSIBLE);
        x.close(0);
        due("not reached", x.seal(1), NOT_POSSIBLE);
        due("broken", x.count(4), 2);
        due("steps", x.count(5), 6);
    }

    @Says(in = "Promise 12", words = "NONE if it has no seal,")
    static void sealWhatHasNoSeal() {
        DrawerCabinet x = game("ch;ck0;cl0;0h");
        x.take(11);
        for (int drawer = 0; drawer < 4; drawer++) {
            due("closed", x.seal(drawer), NONE);
        }
        x.open(0);
        due("open", x.seal(0), NONE);
        x.close(0);
        due("closed again", x.seal(0), NONE);
        due("steps", x.count(5), 3);
    }

    @Says(in = "Promise 12", words = "or its seal is whole.")
    static void sealWhatIsWhole() {
        DrawerCabinet x = game("cs;ch;1s");
        due("without the stamp", x.seal(0), NONE);
        due("not reached", x.seal(2), NONE);
        x.take(11);
        due("with the stamp", x.seal(0), NONE);
        x.open(0);
        x.close(0);
        x.seal(0);
        due("laid again", x.seal(0), NONE);
        due("steps", x.count(5), 4);
    }

    @Says(in = "Promise 12", words = "UNKNOWN; NOT_POSSIBLE without a game,")
    static void sealOrderOfErrors() {
        DrawerCabinet x = cabinet("cs;ch");
        due("unknown before no game", x.seal(2), UNKNOWN);
        due("no game before none: whole", x.seal(0), NOT_POSSIBLE);
        due("no game before none: no seal", x.seal(1), NOT_POSSIBLE);
    }
}
