/** The Terms' DRAWERS AND THINGS, sentence by sentence. */
public final class DrawersAndThingsTests extends Check {
    private static final String TERMS = "DRAWERS AND THINGS";

    public static void main(String[] args) {
        Sentences.run(DrawersAndThingsTests.class, TERMS);
    }

    @Says(in = TERMS, words = "There are at most 16 drawers,")
    static void atMostSixteenBuiltOneByOne() {
        DrawerCabinet x = new DrawerCabinet();
        for (int drawer = 0; drawer < 16; drawer++) {
            due("build", x.build(NONE, 0, 0, 0), drawer);
        }
        due("one more", x.build(NONE, 0, 0, 0), FULL);
        due("drawers", x.count(0), 16);
        due("they can all be told", x.drawer(15, 0), NONE);
        due("not the one behind them", x.drawer(16, 0), UNKNOWN);
    }

    @Says(in = TERMS, words = "There are at most 16 drawers,")
    static void atMostSixteenBuiltFromATextAndBeyond() {
        DrawerCabinet x = cabinet("ch;".repeat(15) + "ch");
        due("drawers", x.count(0), 16);
        due("one more", x.build(NONE, 0, 0, 0), FULL);
        type(x, "ch");
        due("one more from a text", x.buildAll(), FULL);
        due("drawers", x.count(0), 16);
    }

    @Says(in = TERMS, words = "numbered from 0 in the order in which they were built.")
    static void numberedInOrder() {
        DrawerCabinet x = cabinet("ch*1;cs*2");
        due("the next", x.build(NONE, 1, 4, 7), 2);
        int[] holds = {0, 3, 1};
        for (int drawer = 0; drawer < 3; drawer++) {
            due("hold", x.drawer(drawer, 1), holds[drawer]);
        }
        x.undo();
        due("its number again", x.build(NONE, 2, 0, 0), 2);
        due("with its own hold", x.drawer(2, 1), 2);
    }

    @Says(in = TERMS, words =
        "A drawer lies in the cabinet, or in another drawer with a lower number (its outer drawer).")
    static void outerHasALowerNumber() {
        DrawerCabinet x = new DrawerCabinet();
        for (int drawer = 0; drawer < 15; drawer++) {
            due("in itself", x.build(drawer, 0, 0, 0), UNKNOWN);
            due("in a later one", x.build(drawer + 1, 0, 0, 0), UNKNOWN);
            due("in the one before", x.build(drawer == 0 ? NONE : drawer - 1, 0, 0, 0), drawer);
            due("outer", x.drawer(drawer, 0), drawer == 0 ? NONE : drawer - 1);
        }
    }

    @Says(in = TERMS, words = "It has a hold: 0 a handle alone;")
    static void handleAlone() {
        DrawerCabinet x = cabinet("ch;cs");
        due("hold", x.drawer(0, 1), 0);
        due("by", x.drawer(0, 2), NONE);
        x.begin();
        due("opens", x.open(0), 1);
        due("no seal", x.count(4), 0);
    }

    @Says(in = TERMS, words = "1 a lock for a key (0 to 9);")
    static void lockForAKey() {
        DrawerCabinet x = cabinet("ck0;ck9");
        due("hold", x.drawer(1, 1), 1);
        due("the lowest key", x.drawer(0, 2), 0);
        due("the highest key", x.drawer(1, 2), 9);
        due("below", x.build(NONE, 1, -1, 0), BAD_VALUE);
        due("above", x.build(NONE, 1, 10, 0), BAD_VALUE);
        x.begin();
        x.take(9);
        due("its key opens it", x.open(1), 1);
        due("and not the other", x.open(0), NOT_POSSIBLE);
    }

    @Says(in = TERMS, words = "2 a lever: another drawer (its holder);")
    static void leverByAHolder() {
        DrawerCabinet x = cabinet("ch;cl0;ch");
        due("hold", x.drawer(1, 1), 2);
        due("holder", x.drawer(1, 2), 0);
        x.begin();
        x.open(2);
        due("another one does not let it", x.open(1), NOT_POSSIBLE);
        x.open(0);
        due("its holder does", x.open(1), 3);
    }

    @Says(in = TERMS, words = "3 a seal;")
    static void sealThatBreaks() {
        DrawerCabinet x = cabinet("cs;cs");
        due("hold", x.drawer(0, 1), 3);
        due("by", x.drawer(0, 2), NONE);
        x.begin();
        x.open(1);
        due("broken", x.drawer(1, 7), 1);
        due("the other is whole", x.drawer(0, 7), 0);
    }

    @Says(in = TERMS, words = "a stiffness (0 to 9);")
    static void stiffness() {
        DrawerCabinet x = new DrawerCabinet();
        due("below", x.build(NONE, 0, 0, -1), BAD_VALUE);
        due("the least", x.build(NONE, 0, 0, 0), 0);
        due("the most", x.build(NONE, 0, 0, 9), 1);
        due("above", x.build(NONE, 0, 0, 10), BAD_VALUE);
        due("told", x.drawer(0, 3), 0);
        due("told", x.drawer(1, 3), 9);
    }

    @Says(in = TERMS, words = "and 0 to 3 false bottoms (0 at first).")
    static void bottoms() {
        DrawerCabinet x = new DrawerCabinet();
        x.build(NONE, 0, 3, 9);
        due("at first", x.drawer(0, 4), 0);
        due("below", x.setBottoms(0, -1), BAD_VALUE);
        due("above", x.setBottoms(0, 4), BAD_VALUE);
        due("the most", x.setBottoms(0, 3), 0);
        due("told", x.drawer(0, 4), 3);
        x.build(NONE, 0, 3, 9);
        due("of the next at first", x.drawer(1, 4), 0);
        type(x, "ch");
        x.buildAll();
        due("of one from a text at first", x.drawer(2, 4), 0);
    }

    @Says(in = TERMS, words = "There are 12 things, numbered from 0:")
    static void twelveThings() {
        DrawerCabinet x = cabinet("ch");
        due("before the first", x.thing(-1, 0), UNKNOWN);
        for (int thing = 0; thing < 12; thing++) {
            due("lay", x.lay(thing, 0, 0), thing + 1);
        }
        due("behind the last", x.thing(12, 0), UNKNOWN);
        due("none is behind the last", x.lay(12, 0, 0), UNKNOWN);
    }

    @Says(in = TERMS, words = "the keys 0 to 9,")
    static void tenKeys() {
        for (int key = 0; key <= 9; key++) {
            DrawerCabinet x = game("ck" + key);
            for (int thing = 0; thing < 12; thing++) {
                if (thing != key) {
                    x.take(thing);
                }
            }
            due("with all but its key", x.open(0), NOT_POSSIBLE);
            x.take(key);
            due("with key " + key, x.open(0), 1);
        }
    }

    @Says(in = TERMS, words = {"10 the knife,", "11 the stamp."})
    static void knifeAndStamp() {
        DrawerCabinet x = game("cs*1");
        x.open(0);
        for (int thing = 0; thing < 12; thing++) {
            if (thing != 10) {
                x.take(thing);
            }
        }
        due("all but the knife", x.lift(0), NOT_POSSIBLE);
        x.take(10);
        due("the knife", x.lift(0), 1);
        DrawerCabinet y = game("cs");
        y.open(0);
        y.close(0);
        for (int thing = 0; thing < 11; thing++) {
            y.take(thing);
        }
        due("all but the stamp", y.seal(0), NOT_POSSIBLE);
        y.take(11);
        due("the stamp", y.seal(0), 0);
    }

    @Says(in = TERMS, words = "A thing lies on the table (all do at first),")
    static void allOnTheTableAtFirst() {
        DrawerCabinet x = cabinet("ch*3");
        for (int thing = 0; thing < 12; thing++) {
            due("drawer", x.thing(thing, 0), NONE);
            due("depth", x.thing(thing, 1), 0);
            due("in hand", x.thing(thing, 2), 0);
        }
        due("in the drawer", x.drawer(0, 9), 0);
    }

    @Says(in = TERMS, words = "or in a drawer at a depth (0 above all bottoms,")
    static void depthZeroIsAboveAllBottoms() {
        DrawerCabinet x = cabinet("ch*3");
        x.lay(2, 0, 0);
        x.lay(3, 0, 1);
        x.begin();
        x.open(0);
        due("above all bottoms", x.take(2), 1);
        due("below the first", x.take(3), NOT_POSSIBLE);
    }

    @Says(in = TERMS, words = "up to as many bottoms as the drawer has),")
    static void depthUpToTheBottoms() {
        DrawerCabinet x = cabinet("ch*2");
        due("the deepest", x.lay(2, 0, 2), 1);
        due("deeper", x.lay(2, 0, 3), BAD_VALUE);
        x.setBottoms(0, 3);
        due("with one more bottom", x.lay(2, 0, 3), 1);
        due("deeper than all", x.lay(2, 0, 4), BAD_VALUE);
    }

    @Says(in = TERMS, words = "or it is in hand.")
    static void inHandIsNeitherOnTheTableNorInADrawer() {
        DrawerCabinet x = cabinet("ch");
        x.lay(2, 0, 0);
        x.begin();
        x.open(0);
        due("in the drawer", x.drawer(0, 9), 1);
        x.take(2);
        due("in hand", x.thing(2, 2), 1);
        due("drawer", x.thing(2, 0), NONE);
        due("not in the drawer", x.drawer(0, 9), 0);
        x.close(0);
        due("whatever becomes of the drawer", x.thing(2, 2), 1);
    }
}
