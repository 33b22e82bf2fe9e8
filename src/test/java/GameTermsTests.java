/** The Terms' THE GAME, sentence by sentence. */
public final class GameTermsTests extends Check {
    private static final String TERMS = "THE GAME";

    public static void main(String[] args) {
        Sentences.run(GameTermsTests.class, TERMS);
    }

    /** A sealed drawer with two bottoms, a lock within; things laid, and some steps made. */
    private static DrawerCabinet played() {
        DrawerCabinet x = cabinet("cs*2;0k1;ch");
        x.lay(1, 0, 1);
        x.lay(2, 0, 2);
        x.begin();
        x.take(10);
        x.take(11);
        x.open(0);
        x.lift(0);
        x.take(1);
        x.open(1);
        return x;
    }

    private static DrawerCabinet begunAgain() {
        DrawerCabinet x = played();
        x.giveUp();
        due("begin", x.begin(), 3);
        return x;
    }

    // ---- the beginning and the end

    @Says(in = TERMS, words = "While there is no game, drawers are built and things are laid.")
    static void builtWithoutAGame() {
        DrawerCabinet x = game("ch");
        type(x, "ch");
        due("build", x.build(NONE, 0, 0, 0), NOT_POSSIBLE);
        due("buildAll", x.buildAll(), NOT_POSSIBLE);
        due("setBottoms", x.setBottoms(0, 1), NOT_POSSIBLE);
        due("lay", x.lay(0, 0, 0), NOT_POSSIBLE);
        x.giveUp();
        due("build", x.build(NONE, 0, 0, 0), 1);
        due("buildAll", x.buildAll(), 1);
        due("setBottoms", x.setBottoms(0, 1), 0);
        due("lay", x.lay(0, 0, 0), 1);
    }

    @Says(in = TERMS, words = "While there is no game,")
    static void noStepsWithoutAGame() {
        DrawerCabinet x = cabinet("cs*1");
        due("open", x.open(0), NOT_POSSIBLE);
        due("close", x.close(0), NOT_POSSIBLE);
        due("lift", x.lift(0), NOT_POSSIBLE);
        due("take", x.take(0), NOT_POSSIBLE);
        due("seal", x.seal(0), NOT_POSSIBLE);
    }

    @Says(in = TERMS, words = "A game begins with all drawers closed,")
    static void beginsWithAllClosed() {
        DrawerCabinet x = begunAgain();
        due("open drawers", x.count(2), 0);
        for (int drawer = 0; drawer < 3; drawer++) {
            due("open", x.drawer(drawer, 6), 0);
        }
        due("opens again", x.open(0), 1);
    }

    @Says(in = TERMS, words = "no bottoms lifted,")
    static void beginsWithNoBottomsLifted() {
        DrawerCabinet x = begunAgain();
        due("lifted", x.drawer(0, 5), 0);
        x.take(10);
        x.open(0);
        due("the first again", x.lift(0), 1);
    }

    @Says(in = TERMS, words = "all seals whole,")
    static void beginsWithAllSealsWhole() {
        DrawerCabinet x = begunAgain();
        due("broken", x.count(4), 0);
        due("broken", x.drawer(0, 7), 0);
        due("whole", x.seal(0), NONE);
        x.open(0);
        due("breaks again", x.count(4), 1);
    }

    @Says(in = TERMS, words = "and everything where it was laid (nothing in hand).")
    static void beginsWithEverythingWhereItWasLaid() {
        DrawerCabinet x = begunAgain();
        due("in hand", x.count(3), 0);
        due("drawer", x.thing(1, 0), 0);
        due("depth", x.thing(1, 1), 1);
        due("depth", x.thing(2, 1), 2);
        due("on the table", x.thing(10, 0), NONE);
        due("can be taken", x.thing(10, 3), 1);
        due("in the drawer", x.drawer(0, 9), 2);
    }

    @Says(in = TERMS, words = "When it is given up, all is as it was laid.")
    static void givenUpAllIsAsItWasLaid() {
        DrawerCabinet before = cabinet("cs*2;0k1;ch");
        before.lay(1, 0, 1);
        before.lay(2, 0, 2);
        DrawerCabinet x = played();
        due("steps", x.giveUp(), 6);
        Told.same("as it was laid", Told.state(x), Told.state(before));
    }

    // ---- to reach

    @Says(in = TERMS, words = "A drawer can be reached if it lies in the cabinet,")
    static void reachedInTheCabinet() {
        DrawerCabinet x = game("ck5;cl0;cs;ch");
        for (int drawer = 0; drawer < 4; drawer++) {
            due("reached " + drawer, x.drawer(drawer, 8), 1);
        }
    }

    @Says(in = TERMS, words = "or its outer drawer is open,")
    static void reachedInAnOpenDrawerAlone() {
        DrawerCabinet x = game("ch;0h");
        due("closed", x.drawer(1, 8), 0);
        x.open(0);
        due("open", x.drawer(1, 8), 1);
        x.close(0);
        due("closed again", x.drawer(1, 8), 0);
    }

    @Says(in = TERMS, words = "and can be reached itself.")
    static void reachedIfTheOuterDrawerIs() {
        DrawerCabinet x = game("ch;0h;1h;2h");
        x.open(0);
        x.open(1);
        x.open(2);
        due("all open", x.drawer(3, 8), 1);
        x.close(0);
        due("the outer one is closed", x.drawer(1, 8), 0);
        due("the outer one is open, but not reached", x.drawer(2, 8), 0);
        due("two further in", x.drawer(3, 8), 0);
        due("open", x.open(3), NOT_POSSIBLE);
        x.open(0);
        due("reached again", x.drawer(3, 8), 1);
        x.close(1);
        due("one between is closed", x.drawer(3, 8), 0);
    }

    @Says(in = TERMS, words = "and can be reached itself.")
    static void reachedThroughSixteenDrawers() {
        DrawerCabinet x = new DrawerCabinet();
        for (int drawer = 0; drawer < 16; drawer++) {
            x.build(drawer == 0 ? NONE : drawer - 1, 0, 0, 0);
        }
        x.begin();
        for (int drawer = 0; drawer < 15; drawer++) {
            due("the last one is not reached", x.drawer(15, 8), 0);
            due("open", x.open(drawer), drawer + 1);
        }
        due("the last one is reached", x.drawer(15, 8), 1);
        x.close(0);
        due("not any more", x.drawer(15, 8), 0);
    }

    // ---- to open

    @Says(in = TERMS, words = {
        "A drawer that is closed and can be reached can be opened, if its hold lets it:", "a handle always;"})
    static void openAHandle() {
        DrawerCabinet x = game("ch;0h");
        due("not reached", x.open(1), NOT_POSSIBLE);
        due("reached", x.open(0), 1);
        due("reached then", x.open(1), 2);
        due("not closed", x.open(0), NONE);
    }

    @Says(in = TERMS, words = {
        "A drawer that is closed and can be reached can be opened,", "a lock, if its key is in hand;"})
    static void openALock() {
        DrawerCabinet x = game("ck3;ch;1k3");
        due("the key is on the table", x.open(0), NOT_POSSIBLE);
        x.take(4);
        due("another key", x.open(0), NOT_POSSIBLE);
        x.take(3);
        due("the key is in hand", x.open(0), 1);
        due("not reached with its key", x.open(2), NOT_POSSIBLE);
        x.open(1);
        due("one key for two", x.open(2), 3);
    }

    @Says(in = TERMS, words = "a lever, if its holder is open;")
    static void openALever() {
        DrawerCabinet x = game("ch;0h;cl1;0l1");
        due("the holder is closed", x.open(2), NOT_POSSIBLE);
        x.open(0);
        due("another one is open", x.open(2), NOT_POSSIBLE);
        x.open(1);
        due("the holder is open", x.open(2), 3);
        x.close(2);
        x.close(0);
        due("the holder is open, but not reached", x.open(2), 2);
        due("the holder is open, but the drawer not reached", x.open(3), NOT_POSSIBLE);
    }

    @Says(in = TERMS, words = "a seal always, but if it is whole it is broken by that.")
    static void openASeal() {
        DrawerCabinet x = game("cs;ch;1s");
        due("not reached", x.open(2), NOT_POSSIBLE);
        due("nothing is broken", x.count(4), 0);
        due("a whole one", x.open(0), 1);
        due("it is broken", x.drawer(0, 7), 1);
        x.close(0);
        due("closing does not mend it", x.drawer(0, 7), 1);
        due("a broken one", x.open(0), 1);
        due("it stays broken", x.drawer(0, 7), 1);
        due("no other is", x.count(4), 1);
    }

    // ---- to lift

    @Says(in = TERMS, words = "The next bottom of a drawer that is open")
    static void liftInAnOpenDrawer() {
        DrawerCabinet x = game("ch*2");
        x.take(10);
        due("closed", x.lift(0), NOT_POSSIBLE);
        x.open(0);
        due("open", x.lift(0), 1);
        x.close(0);
        due("closed again", x.lift(0), NOT_POSSIBLE);
    }

    @Says(in = TERMS, words = "and can be reached can be lifted,")
    static void liftInADrawerThatIsReached() {
        DrawerCabinet x = game("ch;0h*1");
        x.take(10);
        x.open(0);
        x.open(1);
        x.close(0);
        due("open, but not reached", x.lift(1), NOT_POSSIBLE);
        x.open(0);
        due("reached", x.lift(1), 1);
    }

    @Says(in = TERMS, words = "if it has one that is not lifted,")
    static void liftWhatIsThere() {
        DrawerCabinet x = game("ch;ch*1;ch*3");
        x.take(10);
        for (int drawer = 0; drawer < 3; drawer++) {
            x.open(drawer);
        }
        due("without bottoms", x.lift(0), NONE);
        due("the only one", x.lift(1), 1);
        due("no second", x.lift(1), NONE);
        for (int bottom = 1; bottom <= 3; bottom++) {
            due("one after the other", x.lift(2), bottom);
        }
        due("no fourth", x.lift(2), NONE);
    }

    @Says(in = TERMS, words = "and the knife is in hand.")
    static void liftWithTheKnife() {
        DrawerCabinet x = cabinet("ch*1");
        x.lay(10, 0, 0);
        x.begin();
        x.open(0);
        x.take(11);
        due("the knife lies above the bottoms", x.lift(0), NOT_POSSIBLE);
        x.take(10);
        due("the knife is in hand", x.lift(0), 1);
    }

    // ---- to take

    @Says(in = TERMS, words = "A thing that is not in hand can be taken if it lies on the table,")
    static void takeFromTheTable() {
        DrawerCabinet x = game("ch");
        for (int thing = 0; thing < 12; thing++) {
            due("can be taken", x.thing(thing, 3), 1);
            due("take", x.take(thing), thing + 1);
            due("not again", x.thing(thing, 3), 0);
            due("not again", x.take(thing), NONE);
        }
    }

    @Says(in = TERMS, words = "or in a drawer that is open and can be reached,")
    static void takeFromADrawer() {
        DrawerCabinet x = cabinet("ch;0h");
        x.lay(5, 1, 0);
        x.begin();
        due("closed", x.take(5), NOT_POSSIBLE);
        x.open(0);
        due("its outer one is open", x.take(5), NOT_POSSIBLE);
        x.open(1);
        x.close(0);
        due("open, but not reached", x.take(5), NOT_POSSIBLE);
        x.open(0);
        x.close(1);
        due("reached, but closed", x.take(5), NOT_POSSIBLE);
        x.open(1);
        due("open and reached", x.take(5), 1);
    }

    @Says(in = TERMS, words = "and at least as many bottoms of which are lifted as its depth.")
    static void takeFromUnderBottoms() {
        DrawerCabinet x = cabinet("ch*3");
        for (int depth = 0; depth <= 3; depth++) {
            x.lay(depth, 0, depth);
        }
        x.begin();
        x.open(0);
        x.take(10);
        for (int lifted = 0; lifted <= 3; lifted++) {
            for (int depth = 0; depth <= 3; depth++) {
                due(lifted + " lifted, depth " + depth, x.thing(depth, 3), depth <= lifted ? 1 : 0);
            }
            if (lifted < 3) {
                due("too deep", x.take(lifted + 1), NOT_POSSIBLE);
                due("lift", x.lift(0), lifted + 1);
            }
        }
        due("with more lifted than its depth", x.take(1), 2);
        due("with as many lifted", x.take(3), 3);
    }

    // ---- to close, and to seal

    @Says(in = TERMS, words = "A drawer that is open and can be reached can be closed")
    static void closeWhatIsOpenAndReached() {
        DrawerCabinet x = game("ch;0h");
        due("closed", x.close(0), NONE);
        x.open(0);
        x.open(1);
        due("open", x.close(0), 1);
        due("open, but not reached", x.close(1), NOT_POSSIBLE);
        x.open(0);
        due("reached again", x.close(1), 1);
    }

    @Says(in = TERMS, words = "(bottoms stay lifted;")
    static void bottomsStayLifted() {
        DrawerCabinet x = cabinet("ch*2");
        x.lay(1, 0, 1);
        x.begin();
        x.take(10);
        x.open(0);
        x.lift(0);
        x.close(0);
        due("closed", x.drawer(0, 5), 1);
        x.open(0);
        due("open again", x.drawer(0, 5), 1);
        due("what lies under it", x.take(1), 2);
        due("the next one", x.lift(0), 2);
    }

    @Says(in = TERMS, words = "drawers in it stay as they are, but cannot be reached).")
    static void drawersInItStayAsTheyAre() {
        DrawerCabinet x = game("ch;0s;0h;1h");
        x.open(0);
        x.open(1);
        x.open(3);
        due("close", x.close(0), 2);
        int[] open = {0, 1, 0, 1};
        int[] reached = {1, 0, 0, 0};
        for (int drawer = 0; drawer < 4; drawer++) {
            due("open " + drawer, x.drawer(drawer, 6), open[drawer]);
            due("reached " + drawer, x.drawer(drawer, 8), reached[drawer]);
        }
        due("its seal stays broken", x.drawer(1, 7), 1);
    }

    @Says(in = TERMS, words = "A broken seal of a closed drawer that can be reached can be laid again,")
    static void sealABrokenSeal() {
        DrawerCabinet x = game("ch;0s;cs");
        x.take(11);
        x.open(0);
        due("whole", x.seal(1), NONE);
        x.open(1);
        due("open", x.seal(1), NOT_POSSIBLE);
        x.close(1);
        x.close(0);
        due("not reached", x.seal(1), NOT_POSSIBLE);
        x.open(0);
        due("broken, closed and reached", x.seal(1), 0);
    }

    @Says(in = TERMS, words = {"if the stamp is in hand:", "it is whole then."})
    static void sealWithTheStamp() {
        DrawerCabinet x = game("cs;cs");
        x.open(0);
        x.open(1);
        x.close(0);
        x.take(10);
        due("without the stamp", x.seal(0), NOT_POSSIBLE);
        x.take(11);
        due("with it", x.seal(0), 1);
        due("whole", x.drawer(0, 7), 0);
        due("the other one is broken", x.drawer(1, 7), 1);
        due("still closed", x.drawer(0, 6), 0);
        x.open(0);
        due("it breaks again", x.count(4), 2);
    }

    // ---- steps and minutes

    @Says(in = TERMS, words = "A step is an opening, a lifting, a taking, a closing or a sealing.")
    static void stepsAreCounted() {
        DrawerCabinet x = game("cs*1");
        due("at the beginning", x.count(5), 0);
        x.open(0);
        due("an opening", x.count(5), 1);
        x.take(10);
        due("a taking", x.count(5), 2);
        x.lift(0);
        due("a lifting", x.count(5), 3);
        x.close(0);
        due("a closing", x.count(5), 4);
        x.take(11);
        x.seal(0);
        due("a sealing", x.count(5), 6);
    }

    @Says(in = TERMS, words = "A step is an opening, a lifting, a taking, a closing or a sealing.")
    static void nothingElseIsAStep() {
        DrawerCabinet x = game("cs*1");
        x.open(0);
        x.open(0);
        x.open(1);
        x.lift(0);
        x.seal(0);
        x.type('c');
        x.clearText();
        x.keep();
        x.hint(0);
        x.needs(0, 0);
        due("steps", x.count(5), 1);
        due("minutes", x.minutes(), 1.0);
        x.restore();
        due("nor is a restoring", x.count(5), 1);
        x.undo();
        x.undo();
        due("undo takes one back", x.count(5), 0);
    }

    @Says(in = TERMS, words = "Minutes are a double, 0.0 at the beginning of a game:")
    static void minutesAtTheBeginning() {
        DrawerCabinet x = game("ch");
        due("begun", x.minutes(), 0.0);
        x.open(0);
        x.giveUp();
        x.begin();
        due("begun again", x.minutes(), 0.0);
    }

    @Says(in = TERMS, words = "an opening or a closing adds 1.0 + (double) stiffness / 4.0,")
    static void minutesOfEachStiffness() {
        for (int stiffness = 0; stiffness <= 9; stiffness++) {
            DrawerCabinet x = new DrawerCabinet();
            x.build(NONE, stiffness % 2 * 3, 0, stiffness);
            x.begin();
            double each = 1.0 + (double) stiffness / 4.0;
            x.open(0);
            due("an opening of " + stiffness, x.minutes(), each);
            x.close(0);
            due("and a closing of " + stiffness, x.minutes(), each + each);
        }
    }

    @Says(in = TERMS, words = {"a lifting 2.5,", "a taking 0.25,", "a sealing 3.0."})
    static void minutesOfTheOtherSteps() {
        DrawerCabinet x = game("cs*2");
        x.take(10);
        due("a taking", x.minutes(), 0.25);
        x.take(11);
        due("a second taking", x.minutes(), 0.5);
        x.open(0);
        x.lift(0);
        due("an opening and a lifting", x.minutes(), 4.0);
        x.lift(0);
        due("a second lifting", x.minutes(), 6.5);
        x.close(0);
        x.seal(0);
        due("a closing and a sealing", x.minutes(), 10.5);
        x.undo();
        due("undone", x.minutes(), 7.5);
    }
}
