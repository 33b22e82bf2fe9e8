/** The Terms' WHAT IS NEEDED, and promises 20 and 21, sentence by sentence: needs, hint. */
public final class NeedsTests extends Check {
    private static final String TERMS = "WHAT IS NEEDED";
    private static final int KNIFE = 1 << 10;

    public static void main(String[] args) {
        Sentences.run(NeedsTests.class, TERMS, "Promise 20", "Promise 21");
    }

    /** The answers of needs for what from 0 on: steps, openings, takings, liftings, seals. */
    private static void dueNeeds(String what, DrawerCabinet x, int drawer, int... want) {
        for (int i = 0; i < want.length; i++) {
            due(what + ": needs(" + drawer + ", " + i + ")", x.needs(drawer, i), want[i]);
        }
    }

    private static void notPossible(String what, DrawerCabinet x, int drawer) {
        dueNeeds(what, x, drawer, NOT_POSSIBLE, NOT_POSSIBLE, NOT_POSSIBLE, NOT_POSSIBLE, NOT_POSSIBLE);
    }

    // ---- to reach

    @Says(in = TERMS, words = "To reach a drawer needs the opening of each drawer in which it lies, one in the other,")
    static void toReachNeedsAllOuterDrawers() {
        DrawerCabinet x = cabinet("ch;0h;1h;2h;ch");
        dueNeeds("in the cabinet", x, 0, 1, 1, 0, 0, 0);
        dueNeeds("in one", x, 1, 2, 3, 0, 0, 0);
        dueNeeds("in three", x, 3, 4, 15, 0, 0, 0);
        dueNeeds("another one", x, 4, 1, 16, 0, 0, 0);
        DrawerCabinet y = new DrawerCabinet();
        for (int drawer = 0; drawer < 16; drawer++) {
            y.build(drawer == 0 ? NONE : drawer - 1, 0, 0, 0);
        }
        dueNeeds("in fifteen", y, 15, 16, 0xffff, 0, 0, 0);
    }

    @Says(in = TERMS, words = "that is closed.")
    static void toReachNeedsNoneThatIsOpen() {
        DrawerCabinet x = game("ch;0h;1h");
        x.open(0);
        dueNeeds("the outermost is open", x, 2, 2, 6, 0, 0, 0);
        x.open(1);
        dueNeeds("both are open", x, 2, 1, 4, 0, 0, 0);
        x.close(0);
        dueNeeds("the one between is open", x, 2, 2, 5, 0, 0, 0);
    }

    // ---- the opening

    @Says(in = TERMS, words = "What is needed for a step, beside itself:")
    static void theStepItselfIsCounted() {
        DrawerCabinet x = cabinet("ch;cs");
        dueNeeds("a handle", x, 0, 1, 1, 0, 0, 0);
        dueNeeds("a seal", x, 1, 1, 2, 0, 0, 1);
    }

    @Says(in = TERMS, words = "the opening of a closed drawer: to reach it;")
    static void theOpeningNeedsToReachIt() {
        DrawerCabinet x = game("ch;0s;1k3;2l0");
        dueNeeds("a handle, a seal, a lock and a lever", x, 3, 5, 15, 8, 0, 1);
        x.open(0);
        x.open(1);
        dueNeeds("two are open", x, 3, 3, 12, 8, 0, 0);
    }

    @Says(in = TERMS, words = {"the taking of its key, if it has a lock", "and the key is not in hand;"})
    static void theOpeningOfALockNeedsItsKey() {
        DrawerCabinet x = game("ck0;ck9");
        dueNeeds("the key 0", x, 0, 2, 1, 1, 0, 0);
        dueNeeds("the key 9", x, 1, 2, 2, 512, 0, 0);
        x.take(9);
        dueNeeds("the key 9 is in hand", x, 1, 1, 2, 0, 0, 0);
        dueNeeds("the key 0 is not", x, 0, 2, 1, 1, 0, 0);
        x.open(1);
        x.close(1);
        dueNeeds("it was open", x, 1, 1, 2, 0, 0, 0);
    }

    @Says(in = TERMS, words = {"the opening of its holder, if it has a lever", "and the holder is closed;"})
    static void theOpeningOfALeverNeedsItsHolder() {
        DrawerCabinet x = game("ch;0h;cl1;cl2");
        dueNeeds("the holder within", x, 2, 3, 7, 0, 0, 0);
        dueNeeds("and the next lever", x, 3, 4, 15, 0, 0, 0);
        x.open(0);
        x.open(1);
        dueNeeds("the holder is open", x, 2, 1, 4, 0, 0, 0);
        x.close(0);
        dueNeeds("the holder is open, but not reached", x, 2, 1, 4, 0, 0, 0);
        x.open(0);
        x.close(1);
        dueNeeds("the holder is closed again", x, 2, 2, 6, 0, 0, 0);
    }

    // ---- the lifting

    @Says(in = TERMS, words = "the lifting of the next bottom of a drawer: to reach it,")
    static void theLiftingNeedsToReachTheDrawer() {
        DrawerCabinet x = cabinet("ch;0h*1;ck1");
        x.lay(1, 1, 1);
        x.begin();
        dueNeeds("at first", x, 2, 6, 7, 2 + KNIFE, 1, 0);
        x.open(0);
        x.open(1);
        x.close(0);
        dueNeeds("open, but not reached", x, 2, 5, 5, 2 + KNIFE, 1, 0);
    }

    @Says(in = TERMS, words = "its opening, if it is closed, and the taking of the knife,")
    static void theLiftingNeedsTheOpening() {
        DrawerCabinet x = cabinet("cs*1;ck1");
        x.lay(1, 0, 1);
        x.begin();
        dueNeeds("closed", x, 1, 5, 3, 2 + KNIFE, 1, 1);
        x.open(0);
        dueNeeds("open", x, 1, 4, 2, 2 + KNIFE, 1, 0);
        x.close(0);
        dueNeeds("closed again", x, 1, 5, 3, 2 + KNIFE, 1, 0);
    }

    @Says(in = TERMS, words = {"and the taking of the knife,", "if that is not in hand;"})
    static void theLiftingNeedsTheKnife() {
        DrawerCabinet x = cabinet("ch*1;ck1;ch");
        x.lay(1, 0, 1);
        x.lay(10, 2, 0);
        x.begin();
        dueNeeds("the knife in a drawer", x, 1, 6, 7, 2 + KNIFE, 1, 0);
        x.open(2);
        x.take(10);
        dueNeeds("the knife in hand", x, 1, 4, 3, 2, 1, 0);
    }

    @Says(in = TERMS, words = "the lifting of a bottom further below needs that of the bottoms above it, too;")
    static void theLiftingNeedsThoseAbove() {
        for (int depth = 0; depth <= 3; depth++) {
            DrawerCabinet x = cabinet("ch*3;ck1");
            x.lay(1, 0, depth);
            int knife = depth > 0 ? KNIFE : 0;
            dueNeeds("depth " + depth, x, 1, 3 + depth + (depth > 0 ? 1 : 0), 3, 2 + knife, depth, 0);
        }
    }

    // ---- the taking

    @Says(in = TERMS, words = "the taking of a thing that lies in a drawer at the depth d: to reach the drawer,")
    static void theTakingNeedsToReachTheDrawer() {
        DrawerCabinet x = cabinet("ch;0h;ck1");
        x.lay(1, 1, 0);
        x.begin();
        dueNeeds("at first", x, 2, 4, 7, 2, 0, 0);
        x.open(0);
        x.open(1);
        x.close(0);
        dueNeeds("open, but not reached", x, 2, 3, 5, 2, 0, 0);
    }

    @Says(in = TERMS, words = "the taking of a thing that lies in a drawer")
    static void theTakingFromTheTableNeedsNothing() {
        DrawerCabinet x = cabinet("ch*3;ck1");
        dueNeeds("on the table", x, 1, 2, 2, 2, 0, 0);
        x.lay(1, 0, 0);
        dueNeeds("in a drawer", x, 1, 3, 3, 2, 0, 0);
    }

    @Says(in = TERMS, words = "its opening, if it is closed, and the lifting of those of its first d bottoms")
    static void theTakingNeedsTheOpening() {
        DrawerCabinet x = cabinet("ch;ck1");
        x.lay(1, 0, 0);
        x.begin();
        dueNeeds("closed", x, 1, 3, 3, 2, 0, 0);
        x.open(0);
        dueNeeds("open", x, 1, 2, 2, 2, 0, 0);
        x.take(1);
        x.close(0);
        dueNeeds("taken from it", x, 1, 1, 2, 0, 0, 0);
    }

    @Says(in = TERMS, words = "that are not lifted;")
    static void theTakingNeedsTheLiftingsThatAreLeft() {
        DrawerCabinet x = cabinet("ch*3;ck1;ck2");
        x.lay(1, 0, 2);
        x.lay(2, 0, 3);
        x.begin();
        x.take(10);
        x.open(0);
        int[] left = {2, 1, 0, 0};
        for (int lifted = 0; lifted <= 3; lifted++) {
            dueNeeds(lifted + " lifted", x, 1, 2 + left[lifted], 2, 2, left[lifted], 0);
            dueNeeds(lifted + " lifted", x, 2, 2 + 3 - lifted, 4, 4, 3 - lifted, 0);
            x.lift(0);
        }
    }

    @Says(in = TERMS, words = "the lifting of those of its first d bottoms")
    static void theTakingsOfTwoThingsShareTheirLiftings() {
        DrawerCabinet x = cabinet("ch*3;ck1;1k2");
        x.lay(1, 0, 1);
        x.lay(2, 0, 3);
        dueNeeds("one", x, 1, 5, 3, 2 + KNIFE, 1, 0);
        dueNeeds("both", x, 2, 9, 7, 2 + 4 + KNIFE, 3, 0);
        x.lay(1, 0, 3);
        x.lay(2, 0, 1);
        dueNeeds("the other way round", x, 2, 9, 7, 2 + 4 + KNIFE, 3, 0);
    }

    // ---- all that these need

    @Says(in = TERMS, words = "and all that these steps need.")
    static void allThatTheseStepsNeed() {
        DrawerCabinet x = cabinet("cs;ck0*2;1s;cl2;ck1;4h*1;cl5;ck2");
        x.lay(0, 0, 0);
        x.lay(10, 2, 0);
        x.lay(1, 1, 2);
        x.lay(2, 5, 1);
        dueNeeds("a key in a drawer", x, 1, 3, 3, 1, 0, 1);
        dueNeeds("a holder within it", x, 3, 5, 15, 1, 0, 2);
        dueNeeds("under bottoms", x, 4, 9, 16 + 7, 3 + KNIFE, 2, 2);
        dueNeeds("a holder within that", x, 6, 11, 64 + 32 + 16 + 7, 3 + KNIFE, 2, 2);
        dueNeeds("a key under a bottom within that", x, 7, 13, 128 + 32 + 16 + 7, 7 + KNIFE, 3, 2);
    }

    @Says(in = TERMS, words = "and all that these steps need.")
    static void aStepNeededTwiceIsOne() {
        DrawerCabinet x = cabinet("ch;0k1;0l1;2k1;cl0");
        x.lay(1, 0, 0);
        dueNeeds("by key and by lever", x, 3, 5, 15, 2, 0, 0);
        dueNeeds("by lever", x, 4, 2, 17, 0, 0, 0);
    }

    @Says(in = TERMS, words = "and all that these steps need.")
    static void theLongestChains() {
        DrawerCabinet x = new DrawerCabinet();
        x.build(NONE, 0, 0, 0);
        for (int drawer = 1; drawer < 16; drawer++) {
            x.build(drawer - 1, drawer <= 10 ? 1 : 3, 10 - drawer, 0);
        }
        for (int drawer = 0; drawer < 16; drawer++) {
            x.setBottoms(drawer, 3);
        }
        for (int key = 0; key < 10; key++) {
            x.lay(9 - key, key, 3);
        }
        dueNeeds("fifteen drawers deep", x, 15, 16 + 11 + 30, 0xffff, 0x7ff, 30, 5);
    }

    @Says(in = TERMS, words = "and all that these steps need.")
    static void theLongestChainOfLevers() {
        DrawerCabinet x = new DrawerCabinet();
        for (int drawer = 0; drawer < 15; drawer++) {
            x.build(NONE, 2, drawer + 1, 0);
        }
        x.build(NONE, 0, 0, 0);
        dueNeeds("fifteen levers", x, 0, 16, 0xffff, 0, 0, 0);
        x.begin();
        due("the first step", x.hint(0), 115);
    }

    @Says(in = TERMS, words = "and all that these steps need.")
    static void theLongestChainBackwards() {
        DrawerCabinet x = new DrawerCabinet();
        for (int drawer = 0; drawer < 16; drawer++) {
            int hold = drawer < 5 ? 2 : drawer < 15 ? 1 : 0;
            x.build(NONE, hold, hold == 2 ? drawer + 1 : hold == 1 ? drawer - 5 : 0, 0);
            x.setBottoms(drawer, 3);
        }
        for (int key = 0; key < 10; key++) {
            x.lay(key, key + 6, 3);
        }
        dueNeeds("levers, and locks under bottoms", x, 0, 16 + 11 + 30, 0xffff, 0x7ff, 30, 0);
        due("it can be solved", x.count(6), 1);
        x.lay(10, 15, 1);
        due("not without the knife", x.count(7), 0x7fff);
    }

    @Says(in = TERMS, words = {"What is needed for a step, beside itself:", "and all that these steps need."})
    static void nothingElseIsNeeded() {
        DrawerCabinet x = cabinet("ck0;ch;" + "ch;".repeat(13) + "ch*3");
        x.lay(0, 15, 3);
        dueNeeds("a key in the last drawer", x, 0, 7, 1 + (1 << 15), 1 + KNIFE, 3, 0);
        dueNeeds("asked behind it", x, 1, 1, 2, 0, 0, 0);
        dueNeeds("and the last itself", x, 15, 1, 1 << 15, 0, 0, 0);
    }

    // ---- not possible

    @Says(in = TERMS, words = "If a step would need itself,")
    static void anOpeningWouldNeedItself() {
        DrawerCabinet x = cabinet("cl0;cl2;cl1");
        notPossible("its own holder", x, 0);
        notPossible("two hold one another", x, 1);
        notPossible("two hold one another", x, 2);
        DrawerCabinet y = cabinet("cl1;0h;ck3;2h;ch");
        y.lay(3, 3, 0);
        notPossible("a holder within", y, 0);
        notPossible("what lies in it", y, 1);
        notPossible("its key within", y, 2);
        notPossible("where the key lies", y, 3);
        y.lay(3, 2, 0);
        notPossible("its key in itself", y, 2);
        y.lay(3, 4, 0);
        dueNeeds("its key elsewhere", y, 2, 3, 4 + 16, 8, 0, 0);
    }

    @Says(in = TERMS, words = "If a step would need itself,")
    static void aTakingWouldNeedItself() {
        DrawerCabinet x = cabinet("ck0;ck1;ch");
        x.lay(0, 1, 0);
        x.lay(1, 0, 0);
        notPossible("keys crosswise", x, 0);
        notPossible("keys crosswise", x, 1);
        dueNeeds("another one", x, 2, 1, 4, 0, 0, 0);
        x.lay(1, 2, 0);
        dueNeeds("not crosswise", x, 0, 5, 7, 3, 0, 0);
    }

    @Says(in = TERMS, words = "If a step would need itself,")
    static void aLiftingWouldNeedItself() {
        DrawerCabinet x = cabinet("ch*2;ck0;ch*1");
        x.lay(10, 0, 1);
        x.lay(0, 2, 1);
        notPossible("the knife under a bottom", x, 1);
        dueNeeds("where it lies", x, 0, 1, 1, 0, 0, 0);
        dueNeeds("where the key lies", x, 2, 1, 4, 0, 0, 0);
        x.lay(10, 0, 0);
        dueNeeds("the knife above the bottoms", x, 1, 6, 7, 1 + KNIFE, 1, 0);
        x.lay(10, 1, 0);
        notPossible("the knife behind the lock", x, 1);
    }

    @Says(in = TERMS, words = {"or a holder that is not there,", "it is not possible."})
    static void aHolderIsNotThere() {
        DrawerCabinet x = cabinet("cl2;0h");
        notPossible("the next number", x, 0);
        notPossible("what lies in it", x, 1);
        x.build(NONE, 0, 0, 0);
        dueNeeds("it is there", x, 1, 3, 7, 0, 0, 0);
        x.undo();
        notPossible("it is gone", x, 1);
        DrawerCabinet y = cabinet("cl15;" + "ch;".repeat(13) + "ch");
        notPossible("the last number", y, 0);
        y.build(14, 3, 0, 0);
        dueNeeds("it is there", y, 0, 3, 1 + (1 << 14) + (1 << 15), 0, 0, 1);
    }

    @Says(in = TERMS, words = "it is not possible.")
    static void whatNeedsAStepThatIsNotPossible() {
        DrawerCabinet x = cabinet("cl9;0h;cl1;ck4;3h;ck5");
        x.lay(4, 1, 0);
        x.lay(5, 4, 0);
        for (int drawer = 0; drawer < 6; drawer++) {
            notPossible("by the first one", x, drawer);
        }
        x.lay(5, NONE, 0);
        dueNeeds("the last one", x, 5, 2, 32, 32, 0, 0);
    }

    @Says(in = TERMS, words = "(A drawer that is open and cannot be reached needs what it takes to reach it.)")
    static void openAndNotReached() {
        DrawerCabinet x = game("cs;0k1;1h;ch");
        x.take(1);
        x.open(0);
        x.open(1);
        x.open(2);
        x.close(0);
        dueNeeds("in one that is closed", x, 1, 1, 1, 0, 0, 0);
        dueNeeds("in an open one in one that is closed", x, 2, 1, 1, 0, 0, 0);
        x.open(0);
        dueNeeds("reached", x, 2, 0, 0, 0, 0, 0);
        x.close(1);
        x.close(0);
        dueNeeds("in two that are closed", x, 2, 2, 3, 0, 0, 0);
        due("a hint", x.hint(2), 100);
    }

    // ---- solved

    @Says(in = TERMS, words = "A cabinet can be solved if the opening of each drawer is possible,")
    static void solvedIfEachOpeningIsPossible() {
        DrawerCabinet x = cabinet("ck0;0s*1;cl1");
        due("the key on the table", x.count(6), 1);
        x.lay(0, 1, 1);
        due("the key within", x.count(6), 0);
        due("none is possible", x.count(7), 7);
        DrawerCabinet y = cabinet("ch;cl2;0h");
        due("a holder elsewhere", y.count(6), 1);
        DrawerCabinet z = cabinet("ch;cl1;0h");
        due("one is not possible", z.count(6), 0);
        due("that one", z.count(7), 2);
    }

    @Says(in = TERMS, words = "as it stands at the beginning of a game")
    static void solvedAsAtTheBeginning() {
        DrawerCabinet x = cabinet("ch*1;ck3;cl1");
        x.lay(3, 0, 1);
        x.begin();
        due("begun", x.count(6), 1);
        x.open(0);
        x.take(10);
        x.lift(0);
        x.take(3);
        x.open(1);
        due("in the midst of it", x.count(6), 1);
        due("none that is not", x.count(7), 0);
        DrawerCabinet y = cabinet("ch;cl1");
        y.begin();
        y.open(0);
        due("one that never can", y.count(6), 0);
        due("told whatever is open", y.count(7), 2);
    }

    @Says(in = TERMS, words = "(also one without drawers).")
    static void solvedWithoutDrawers() {
        DrawerCabinet x = new DrawerCabinet();
        due("a new object", x.count(6), 1);
        due("none that is not possible", x.count(7), 0);
        x.build(NONE, 2, 9, 0);
        due("one that never opens", x.count(6), 0);
        x.undo();
        due("without drawers again", x.count(6), 1);
    }

    // ---- needs

    @Says(in = "Promise 20", words = {
        "`int needs(int drawer, int what)`: Tells what the opening of a drawer needs as things stand",
        "Returns the number;"})
    static void needsAsThingsStand() {
        DrawerCabinet x = cabinet("cs;0s*2;1h;cl2;ck1");
        x.lay(1, 1, 2);
        x.begin();
        dueNeeds("at the beginning", x, 4, 7, 1 + 2 + 16, 2 + KNIFE, 2, 2);
        x.open(0);
        x.open(1);
        x.take(10);
        x.lift(1);
        dueNeeds("half done", x, 4, 3, 16, 2, 1, 0);
        x.lift(1);
        x.take(1);
        dueNeeds("nearly done", x, 4, 1, 16, 0, 0, 0);
        x.open(4);
        dueNeeds("done", x, 4, 0, 0, 0, 0, 0);
        x.undo();
        dueNeeds("undone", x, 4, 1, 16, 0, 0, 0);
    }

    @Says(in = "Promise 20", words = "(without a game: as at the beginning of one).")
    static void needsWithoutAGame() {
        DrawerCabinet x = cabinet("cs*1;0k1");
        x.lay(1, 0, 1);
        dueNeeds("before a game", x, 1, 5, 3, 2 + KNIFE, 1, 1);
        x.begin();
        dueNeeds("at its beginning", x, 1, 5, 3, 2 + KNIFE, 1, 1);
        x.open(0);
        x.take(10);
        x.lift(0);
        x.take(1);
        x.giveUp();
        dueNeeds("after a game", x, 1, 5, 3, 2 + KNIFE, 1, 1);
    }

    @Says(in = "Promise 20", words = "(without a game: as at the beginning of one).")
    static void needsThoughNoGameCanBegin() {
        DrawerCabinet x = cabinet("ch;0l7;0s");
        due("a holder is not there", x.begin(), NOT_POSSIBLE);
        dueNeeds("what does not need it", x, 2, 2, 5, 0, 0, 1);
        notPossible("what does", x, 1);
    }

    @Says(in = "Promise 20", words = {"`drawer`: a drawer", "UNKNOWN;"})
    static void needsOfNoDrawer() {
        DrawerCabinet x = cabinet("ch;ch");
        for (int what = 0; what <= 4; what++) {
            due("NONE", x.needs(NONE, what), UNKNOWN);
            for (int drawer : noDrawers(2)) {
                due("drawer " + drawer, x.needs(drawer, what), UNKNOWN);
            }
        }
        due("the last one", x.needs(1, 0), 1);
        due("without drawers", new DrawerCabinet().needs(0, 0), UNKNOWN);
    }

    @Says(in = "Promise 20", words = "`what`: 0 for how many steps, with the opening itself")
    static void needsSteps() {
        DrawerCabinet x = cabinet("ch*1;ck1;1l0;cs");
        x.lay(1, 0, 1);
        int[] steps = {1, 5, 6, 1};
        for (int drawer = 0; drawer < 4; drawer++) {
            due("steps of " + drawer, x.needs(drawer, 0), steps[drawer]);
        }
    }

    @Says(in = "Promise 20", words = "(0 if it is open and can be reached),")
    static void needsNothing() {
        DrawerCabinet x = game("ch;0k0*1");
        x.take(0);
        x.open(0);
        x.open(1);
        dueNeeds("open in the cabinet", x, 0, 0, 0, 0, 0, 0);
        dueNeeds("open and reached within", x, 1, 0, 0, 0, 0, 0);
        x.close(0);
        dueNeeds("open and not reached", x, 1, 1, 1, 0, 0, 0);
        dueNeeds("closed", x, 0, 1, 1, 0, 0, 0);
    }

    @Says(in = "Promise 20", words = "1 for the drawers that are opened by that (a set, as bits),")
    static void needsOpenings() {
        DrawerCabinet x = cabinet("ch;".repeat(14) + "cl0;14l13");
        due("the first", x.needs(0, 1), 1);
        due("a lever", x.needs(14, 1), 1 + (1 << 14));
        due("the last", x.needs(15, 1), 1 + (1 << 13) + (1 << 14) + (1 << 15));
        x.begin();
        x.open(0);
        due("one is open", x.needs(15, 1), (1 << 13) + (1 << 14) + (1 << 15));
    }

    @Says(in = "Promise 20", words = "2 for the things that are taken (a set),")
    static void needsTakings() {
        DrawerCabinet x = cabinet("ck0*1;0k5;1k9");
        x.lay(9, 0, 1);
        due("the first key", x.needs(0, 2), 1);
        due("two keys", x.needs(1, 2), 1 + 32);
        due("three and the knife", x.needs(2, 2), 1 + 32 + 512 + KNIFE);
        x.begin();
        x.take(5);
        due("one is in hand", x.needs(2, 2), 1 + 512 + KNIFE);
        due("no stamp in any", x.needs(2, 2) & 2048, 0);
    }

    @Says(in = "Promise 20", words = "3 for how many bottoms are lifted,")
    static void needsLiftings() {
        DrawerCabinet x = cabinet("ch*3;ch*2;ck1;2k2");
        x.lay(1, 0, 3);
        x.lay(2, 1, 1);
        due("none", x.needs(1, 3), 0);
        due("three", x.needs(2, 3), 3);
        due("three and one", x.needs(3, 3), 4);
        x.begin();
        x.open(0);
        x.take(10);
        x.lift(0);
        due("two and one", x.needs(3, 3), 3);
    }

    @Says(in = "Promise 20", words = "4 for how many whole seals are broken")
    static void needsSeals() {
        DrawerCabinet x = game("cs;0s;1l3;cs;1h");
        due("one", x.needs(0, 4), 1);
        due("two", x.needs(1, 4), 2);
        due("three", x.needs(2, 4), 3);
        x.open(0);
        x.close(0);
        due("a broken one is not counted", x.needs(2, 4), 2);
        due("its opening is", x.needs(2, 1), 15);
        x.take(11);
        x.seal(0);
        due("a new one is", x.needs(2, 4), 3);
        x.open(0);
        x.open(1);
        x.close(0);
        x.seal(0);
        due("on the way to an open one", x.needs(1, 4), 1);
    }

    @Says(in = "Promise 20", words = {"4 for how many whole seals are broken", "BAD_VALUE;"})
    static void needsOfWhatIsNot() {
        DrawerCabinet x = cabinet("ch;cl9");
        int[] whats = {-1, 5, 6, NONE, 16, 32, Integer.MAX_VALUE, Integer.MIN_VALUE};
        for (int what : whats) {
            due("what " + what, x.needs(0, what), BAD_VALUE);
            due("what " + what + " of one that is not possible", x.needs(1, what), BAD_VALUE);
        }
        x.begin();
        due("in a game", x.needs(0, 5), BAD_VALUE);
    }

    @Says(in = "Promise 20", words = "NOT_POSSIBLE if the opening is not possible.")
    static void needsOfWhatIsNotPossible() {
        DrawerCabinet x = game("ch;cl1;ck2;2h");
        notPossible("in a game", x, 1);
        dueNeeds("another one", x, 2, 2, 4, 4, 0, 0);
        x.giveUp();
        notPossible("without a game", x, 1);
        x.lay(2, 3, 0);
        notPossible("the key within", x, 2);
        notPossible("what lies in it", x, 3);
    }

    @Says(in = "Promise 20", words = "UNKNOWN; BAD_VALUE; NOT_POSSIBLE if the opening is not possible.")
    static void needsOrderOfErrors() {
        DrawerCabinet x = cabinet("cl0");
        due("unknown before bad value", x.needs(1, 5), UNKNOWN);
        due("unknown before bad value", x.needs(-1, -1), UNKNOWN);
        due("bad value before not possible", x.needs(0, 5), BAD_VALUE);
    }

    @Says(in = "Promise 20", words = "Tells what the opening of a drawer needs")
    static void needsChangesNothing() {
        DrawerCabinet x = cabinet("cs*1;0k1");
        x.lay(1, 0, 1);
        x.begin();
        int[] before = Told.state(x);
        for (int what = 0; what <= 4; what++) {
            x.needs(1, what);
        }
        x.hint(1);
        x.count(7);
        Told.same("the state", Told.state(x), before);
        due("states", x.count(9), 3);
    }

    // ---- hint

    @Says(in = "Promise 21", words = {
        "`int hint(int drawer)`: Tells a hint: of the steps that the opening of a drawer needs,",
        "Returns 100 plus the drawer for an opening,",
        "200 plus the thing for a taking,", "300 plus the drawer for a lifting;"})
    static void hintsThroughAWholeGame() {
        DrawerCabinet x = cabinet("ch*1;ck2;cs;2h");
        x.lay(2, 0, 1);
        x.begin();
        due("opens the outer one", x.hint(3), 102);
        due("opens where the key lies", x.hint(1), 100);
        x.open(0);
        due("takes the knife", x.hint(1), 210);
        x.take(10);
        due("lifts", x.hint(1), 300);
        x.lift(0);
        due("takes the key", x.hint(1), 202);
        x.take(2);
        due("opens", x.hint(1), 101);
        x.open(1);
        due("nothing is needed", x.hint(1), NONE);
        due("a hint is no step", x.count(5), 5);
    }

    @Says(in = "Promise 21", words = "of the steps that the opening of a drawer needs,")
    static void hintsOnlyWhatIsNeeded() {
        DrawerCabinet x = cabinet("ch*1;ch*2;ck0;ch");
        x.lay(0, 1, 1);
        x.begin();
        due("no opening that is not needed", x.hint(3), 103);
        x.open(0);
        x.open(1);
        due("no taking that is not needed", x.hint(2), 210);
        x.take(10);
        due("no lifting that is not needed", x.hint(2), 301);
        x.lift(1);
        due("no second lifting", x.hint(2), 200);
    }

    @Says(in = "Promise 21", words = "and that can be made now, the first one:")
    static void hintsOnlyWhatCanBeMadeNow() {
        DrawerCabinet x = cabinet("cl3;ck4;ch*1;2h");
        x.lay(4, 3, 0);
        x.begin();
        due("a lever cannot", x.hint(0), 102);
        due("a lock cannot, nor a taking within", x.hint(1), 102);
        x.open(2);
        due("the holder can", x.hint(0), 103);
        x.open(3);
        due("now the lever can", x.hint(0), 100);
        due("now the taking can", x.hint(1), 204);
    }

    @Says(in = "Promise 21", words = "and that can be made now, the first one:")
    static void hintsNoLiftingThatCannotBeMadeNow() {
        DrawerCabinet x = cabinet("ck1*1;ch*1;ck2");
        x.lay(2, 0, 1);
        x.lay(1, 1, 1);
        x.begin();
        x.open(1);
        x.take(10);
        due("not the one in the locked drawer", x.hint(2), 301);
        x.lift(1);
        x.take(1);
        due("its opening", x.hint(2), 100);
        x.open(0);
        due("now that one", x.hint(2), 300);
    }

    @Says(in = "Promise 21", words = "openings by the numbers of their drawers,")
    static void hintsOpeningsByNumber() {
        DrawerCabinet x = game("ch;cs;ck0;1l0;3l2");
        due("the lowest", x.hint(4), 100);
        x.open(0);
        due("the next", x.hint(4), 101);
        x.open(1);
        due("then the lever between", x.hint(4), 103);
        DrawerCabinet y = game("ch;".repeat(15) + "14h");
        due("the last but one", y.hint(15), 114);
        y.open(14);
        due("the last", y.hint(15), 115);
    }

    @Says(in = "Promise 21", words = "then takings by their things,")
    static void hintsTakingsByThing() {
        DrawerCabinet x = cabinet("ck9*1;0k0;1k3;ch*1");
        x.lay(9, 3, 1);
        x.begin();
        due("an opening before a taking", x.hint(2), 103);
        x.open(3);
        due("the lowest", x.hint(2), 200);
        x.take(0);
        due("the next", x.hint(2), 203);
        x.take(3);
        due("the knife after the keys", x.hint(2), 210);
    }

    @Says(in = "Promise 21", words = "then liftings by their drawers.")
    static void hintsLiftingsByDrawer() {
        DrawerCabinet x = cabinet("ch*1;ch*1;0k1;2k0;3k2");
        x.lay(1, 1, 1);
        x.lay(0, 0, 1);
        x.begin();
        x.open(0);
        x.open(1);
        x.take(10);
        due("a taking before a lifting", x.hint(4), 202);
        x.take(2);
        due("the lowest", x.hint(4), 300);
        x.lift(0);
        due("a taking again before a lifting", x.hint(4), 200);
        x.take(0);
        due("the next", x.hint(4), 301);
        x.lift(1);
        x.take(1);
        due("an opening again", x.hint(4), 102);
    }

    @Says(in = "Promise 21", words = "300 plus the drawer for a lifting;")
    static void hintsOfTheLastDrawer() {
        DrawerCabinet x = cabinet("ck9;" + "ch;".repeat(14) + "ch*3");
        x.lay(9, 15, 3);
        x.begin();
        due("an opening", x.hint(0), 115);
        x.open(15);
        due("a taking", x.hint(0), 210);
        x.take(10);
        for (int lifted = 0; lifted < 3; lifted++) {
            due("a lifting", x.hint(0), 315);
            x.lift(15);
        }
        due("a taking", x.hint(0), 209);
        x.take(9);
        due("the opening itself", x.hint(0), 100);
    }

    @Says(in = "Promise 21", words = {"`drawer`: a drawer", "UNKNOWN;"})
    static void hintOfNoDrawer() {
        DrawerCabinet x = game("ch;ch");
        due("NONE", x.hint(NONE), UNKNOWN);
        for (int drawer : noDrawers(2)) {
            due("drawer " + drawer, x.hint(drawer), UNKNOWN);
        }
        due("the last one", x.hint(1), 101);
    }

    @Says(in = "Promise 21", words = "NOT_POSSIBLE without a game,")
    static void hintWithoutAGame() {
        DrawerCabinet x = cabinet("ch");
        due("before a game", x.hint(0), NOT_POSSIBLE);
        x.begin();
        due("in a game", x.hint(0), 100);
        x.giveUp();
        due("after a game", x.hint(0), NOT_POSSIBLE);
    }

    @Says(in = "Promise 21", words = "or if the opening is not possible;")
    static void hintOfWhatIsNotPossible() {
        DrawerCabinet x = cabinet("ch;cl1;1h;ck2");
        x.lay(2, 3, 0);
        x.begin();
        due("held by itself", x.hint(1), NOT_POSSIBLE);
        due("within that", x.hint(2), NOT_POSSIBLE);
        due("its key within", x.hint(3), NOT_POSSIBLE);
        due("another one", x.hint(0), 100);
    }

    @Says(in = "Promise 21", words = "NONE if nothing is needed.")
    static void hintOfWhatIsOpen() {
        DrawerCabinet x = game("ch;0h*2");
        x.open(0);
        due("open", x.hint(0), NONE);
        x.open(1);
        due("open within", x.hint(1), NONE);
        x.close(0);
        due("open, but not reached", x.hint(1), 100);
        x.open(0);
        due("reached again", x.hint(1), NONE);
    }

    @Says(in = "Promise 21", words = "UNKNOWN; NOT_POSSIBLE without a game,")
    static void hintOrderOfErrors() {
        due("unknown before no game", cabinet("ch").hint(1), UNKNOWN);
        due("unknown before no game", new DrawerCabinet().hint(0), UNKNOWN);
    }
}
