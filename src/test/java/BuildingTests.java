/** Promises 1 to 5: a new object, build, buildAll, setBottoms, lay. */
public final class BuildingTests {
    private static final int UNKNOWN = DrawerCabinet.UNKNOWN;
    private static final int BAD_VALUE = DrawerCabinet.BAD_VALUE;
    private static final int FULL = DrawerCabinet.FULL;
    private static final int NOT_POSSIBLE = DrawerCabinet.NOT_POSSIBLE;
    private static final int NONE = DrawerCabinet.NONE;

    public static void main(String[] args) {
        promise1();
        promise2Answers();
        promise2Errors();
        promise2Order();
        promise3Answers();
        promise3Faults();
        promise3Again();
        promise3Order();
        promise4();
        promise4Things();
        promise5();
        promise5Errors();
        Check.end();
    }

    private static void promise1() {
        DrawerCabinet x = new DrawerCabinet();
        int[] want = {0, 0, 0, 0, 0, 0, 1, 0, 0, 0, 0};
        for (int what = 0; what < want.length; what++) {
            Check.due("1: count " + what, x.count(what), want[what]);
        }
        for (int thing = 0; thing < 12; thing++) {
            Check.due("1: place", x.thing(thing, 0), NONE);
            Check.due("1: depth", x.thing(thing, 1), 0);
            Check.due("1: in hand", x.thing(thing, 2), 0);
            Check.due("1: can be taken", x.thing(thing, 3), 0);
        }
        Check.due("1: no drawer", x.drawer(0, 0), UNKNOWN);
        Check.due("1: no history", x.undo(), NONE);
        Check.due("1: no snapshot", x.restore(), NONE);
        Check.due("1: minutes", x.minutes(), -1.0);
        Check.due("1: bits", x.minutesBits(), 0);
        Check.due("1: the constants", UNKNOWN + 10 * BAD_VALUE + 100 * FULL + 1000 * NOT_POSSIBLE + 10000 * NONE, -54321);
    }

    private static void promise2Answers() {
        DrawerCabinet x = new DrawerCabinet();
        Check.due("2: handle", x.build(NONE, 0, -77, 0), 0);
        Check.due("2: lock", x.build(0, 1, 9, 9), 1);
        Check.due("2: lever", x.build(1, 2, 15, 3), 2);
        Check.due("2: seal", x.build(1, 3, 1000, 4), 3);
        Check.due("2: a holder that is itself", x.build(NONE, 2, 4, 0), 4);
        Check.due("2: the first drawer as holder", x.build(4, 2, 0, 0), 5);
        Check.due("2: the first key", x.build(5, 1, 0, 0), 6);
        int[][] want = {
            {NONE, 0, NONE, 0, 0, 0, 0, 0, 1, 0, 0},
            {0, 1, 9, 9, 0, 0, 0, 0, 0, 0, 1},
            {1, 2, 15, 3, 0, 0, 0, 0, 0, 0, 2},
            {1, 3, NONE, 4, 0, 0, 0, 0, 0, 0, 2},
            {NONE, 2, 4, 0, 0, 0, 0, 0, 1, 0, 0},
            {4, 2, 0, 0, 0, 0, 0, 0, 0, 0, 1},
            {5, 1, 0, 0, 0, 0, 0, 0, 0, 0, 2},
        };
        for (int drawer = 0; drawer < want.length; drawer++) {
            for (int what = 0; what < want[drawer].length; what++) {
                Check.due("2: drawer " + drawer + " what " + what, x.drawer(drawer, what), want[drawer][what]);
            }
        }
        Check.due("2: acts", x.count(9), 4);
        Check.due("2: undo", x.undo(), 3);
        Check.due("2: undone", x.count(0), 6);
    }

    private static void promise2Errors() {
        DrawerCabinet x = new DrawerCabinet();
        int[] outers = {0, 1, -1, -2, -4, -6, 16, Integer.MAX_VALUE, Integer.MIN_VALUE};
        for (int outer : outers) {
            Check.due("2: outer " + outer, x.build(outer, 0, 0, 0), UNKNOWN);
        }
        int[][] bad = {
            {-1, 0, 0}, {4, 0, 0}, {Integer.MAX_VALUE, 0, 0}, {Integer.MIN_VALUE, 0, 0},
            {0, 0, -1}, {0, 0, 10}, {3, 0, Integer.MIN_VALUE},
            {1, -1, 0}, {1, 10, 0}, {1, NONE, 0}, {2, -1, 0}, {2, 16, 0}, {2, Integer.MAX_VALUE, 0},
        };
        for (int[] row : bad) {
            Check.due("2: hold " + row[0] + " by " + row[1] + " stiffness " + row[2],
                x.build(NONE, row[0], row[1], row[2]), BAD_VALUE);
        }
        Check.due("2: nothing built", x.count(0), 0);
        Check.due("2: nothing recorded", x.count(9), 0);
    }

    private static void promise2Order() {
        DrawerCabinet x = new DrawerCabinet();
        for (int drawer = 0; drawer < 15; drawer++) {
            x.build(drawer - 1 < 0 ? NONE : drawer - 1, 0, 0, 0);
        }
        x.begin();
        Check.due("2: in a game", x.build(NONE, 0, 0, 0), NOT_POSSIBLE);
        Check.due("2: bad value before game", x.build(NONE, 9, 0, 0), BAD_VALUE);
        Check.due("2: unknown before bad value", x.build(15, 9, 0, 0), UNKNOWN);
        x.giveUp();
        Check.due("2: the last one", x.build(14, 0, 0, 0), 15);
        Check.due("2: how deep", x.drawer(15, 10), 15);
        Check.due("2: full", x.build(NONE, 0, 0, 0), FULL);
        Check.due("2: bad value before full", x.build(NONE, 1, 10, 0), BAD_VALUE);
        x.begin();
        Check.due("2: full before game", x.build(15, 0, 0, 0), FULL);
        Check.due("2: unknown before full", x.build(16, 0, 0, 0), UNKNOWN);
    }

    private static void promise3Answers() {
        DrawerCabinet x = new DrawerCabinet();
        x.build(NONE, 0, 0, 7);
        Check.type(x, "0s*3;ck9;1l15*1;3h;ch*2");
        Check.due("3: how many", x.buildAll(), 5);
        int[][] want = {
            {NONE, 0, NONE, 7, 0}, {0, 3, NONE, 0, 3}, {NONE, 1, 9, 0, 0},
            {1, 2, 15, 0, 1}, {3, 0, NONE, 0, 0}, {NONE, 0, NONE, 0, 2},
        };
        for (int drawer = 0; drawer < want.length; drawer++) {
            for (int what = 0; what < want[drawer].length; what++) {
                Check.due("3: drawer " + drawer + " what " + what, x.drawer(drawer, what), want[drawer][what]);
            }
        }
        Check.due("3: the text stays", x.count(10), 23);
        Check.due("3: one act", x.count(9), 2);
        Check.due("3: undone at once", x.undo(), 1);
        Check.due("3: one is left", x.count(0), 1);
        Check.due("3: the text stays on undo", x.buildAll(), 5);
        Check.due("3: outers may come from before", x.buildAll(), 5);
        Check.due("3: the outer of drawer 6", x.drawer(6, 0), 0);
        Check.due("3: full", x.buildAll(), 5);
        Check.due("3: no more room", x.buildAll(), FULL);
        Check.due("3: none of them", x.count(0), 16);
    }

    private static void promise3Faults() {
        String[] texts = {
            "", "c", "x", "C", "cx", "ch;", "ch;;", "ch ", "chh", "ck", "ck1", "ckx", "ck10", "cl", "cl1", "cl15",
            "cl16", "cl05", "cl20", "cl151", "cl9*", "clh", "ch*", "ch*0", "ch*1", "ch*3", "ch*4", "ch*11", "ch*1*1",
            "00h", "01h", "16h", "1", "15", "20h", "ch;1", "ch;0h;16h", "ch,ch", ";ch", "*1", "cs1", "cs*2;", "0",
            "c0h", "h", "0h;", "cc", "ck:", "ck;", "ck/", "cl:", "cl;", "cl/", ":h", "/h", "cl10", "cl1:", "cl1/", "ch*/", "ch\u00e9", "ch\u2028", "c\u0130",
        };
        int[] faults = {
            0, 1, 0, 0, 1, 3, 3, 2, 2, 2, -1, 2, 3, 2, -1, -1,
            3, 3, 3, 4, 4, 2, 3, 3, -1, -1, 3, 4, 4,
            1, 1, 1, 1, 2, 1, 4, 7, 2, 0, 0, 2, 5, 1,
            1, 0, 3, 1, 2, 2, 2, 2, 2, 2, 0, 0, -1, 3, 3, 3, 2, 2, 1,
        };
        Check.due("3: the table", texts.length, faults.length);
        for (int i = 0; i < texts.length; i++) {
            DrawerCabinet x = new DrawerCabinet();
            Check.type(x, texts[i]);
            Check.due("3: the text " + texts[i], x.buildAll(), faults[i] < 0 ? 1 : -100 - faults[i]);
            Check.due("3: built of " + texts[i], x.count(0), faults[i] < 0 ? 1 : 0);
            Check.due("3: recorded of " + texts[i], x.count(9), faults[i] < 0 ? 1 : 0);
        }
        DrawerCabinet x = new DrawerCabinet();
        Check.type(x, "ch;".repeat(20));
        Check.due("3: what was read goes", x.count(0), 0);
        Check.due("3: a fault at the very end", x.buildAll(), -160);
        Check.type(x, "ch;".repeat(18) + "ch*3;c");
        Check.due("3: ends early at the very end", x.buildAll(), -160);
    }

    /** What was read before leaves no trace in the next reading. */
    private static void promise3Again() {
        DrawerCabinet x = Check.cabinet("cs*3;0l10*2;ch;1k7*1;0k0");
        for (int hold = 0; hold < 4; hold++) {
            x.undo();
            Check.type(x, new String[] {"ch;0h;1h;2h", "ck2;0k3;1k4;2k5", "cl2;0l3;1l10;2l5", "cs;0s;1s;2s"}[hold]);
            Check.due("3: again", x.buildAll(), 4);
            for (int drawer = 0; drawer < 4; drawer++) {
                int by = hold == 1 || (hold == 2 && drawer != 2) ? drawer + 2 : hold == 2 ? 10 : NONE;
                Check.due("3: outer again", x.drawer(drawer, 0), drawer == 0 ? NONE : drawer - 1);
                Check.due("3: hold again", x.drawer(drawer, 1), hold);
                Check.due("3: by again", x.drawer(drawer, 2), by);
                Check.due("3: stiffness again", x.drawer(drawer, 3), 0);
                Check.due("3: bottoms again", x.drawer(drawer, 4), 0);
            }
        }
        x = Check.cabinet("ch;".repeat(11) + "10h;10s");
        Check.due("3: in the tenth", x.drawer(11, 0), 10);
    }

    private static void promise3Order() {
        DrawerCabinet x = new DrawerCabinet();
        Check.type(x, "ch;".repeat(19) + "ch");
        Check.due("3: twenty", x.buildAll(), FULL);
        Check.type(x, "0h;" + "ch;".repeat(18) + "ch");
        Check.due("3: unknown before full", x.buildAll(), UNKNOWN);
        Check.type(x, "ch;1h");
        Check.due("3: its own number", x.buildAll(), UNKNOWN);
        Check.type(x, "ch;15h;x");
        Check.due("3: fault before unknown", x.buildAll(), -107);
        Check.type(x, "ch;".repeat(15) + "14h");
        Check.due("3: sixteen", x.buildAll(), 16);
        Check.due("3: the last outer", x.drawer(15, 0), 14);
        x.begin();
        Check.type(x, "ch");
        Check.due("3: full before game", x.buildAll(), FULL);
        DrawerCabinet y = Check.cabinet("ch");
        y.begin();
        Check.due("3: in a game", y.buildAll(), NOT_POSSIBLE);
        Check.type(y, "1h");
        Check.due("3: unknown before game", y.buildAll(), UNKNOWN);
        Check.type(y, "1");
        Check.due("3: fault before game", y.buildAll(), -101);
        Check.due("3: nothing recorded", y.count(9), 2);
    }

    private static void promise4() {
        DrawerCabinet x = Check.cabinet("ch");
        Check.due("4: to 3", x.setBottoms(0, 3), 0);
        Check.due("4: to 1", x.setBottoms(0, 1), 3);
        Check.due("4: 1 again", x.setBottoms(0, 1), NONE);
        Check.due("4: told", x.drawer(0, 4), 1);
        Check.due("4: acts", x.count(9), 3);
        Check.due("4: to 0", x.setBottoms(0, 0), 1);
        Check.due("4: 0 again", x.setBottoms(0, 0), NONE);
        Check.due("4: undo", x.undo(), 3);
        Check.due("4: undone", x.drawer(0, 4), 1);
        int[] drawers = {1, -1, NONE, 16, Integer.MIN_VALUE, Integer.MAX_VALUE};
        for (int drawer : drawers) {
            Check.due("4: drawer " + drawer, x.setBottoms(drawer, 9), UNKNOWN);
        }
        int[] bottoms = {-1, 4, Integer.MIN_VALUE, Integer.MAX_VALUE};
        for (int number : bottoms) {
            Check.due("4: bottoms " + number, x.setBottoms(0, number), BAD_VALUE);
        }
        x.begin();
        Check.due("4: in a game", x.setBottoms(0, 2), NOT_POSSIBLE);
        Check.due("4: in a game, so many already", x.setBottoms(0, 1), NOT_POSSIBLE);
        Check.due("4: bad value before game", x.setBottoms(0, 4), BAD_VALUE);
        Check.due("4: unknown before game", x.setBottoms(1, 0), UNKNOWN);
    }

    private static void promise4Things() {
        DrawerCabinet x = Check.cabinet("ch*3;ch*3");
        for (int thing = 0; thing < 4; thing++) {
            x.lay(3 - thing, 0, thing);
            x.lay(thing + 4, 1, thing);
        }
        x.setBottoms(0, 1);
        int[] want = {1, 1, 1, 0, 0, 1, 2, 3, 0};
        for (int thing = 0; thing < want.length; thing++) {
            Check.due("4: depth of " + thing, x.thing(thing, 1), want[thing]);
        }
        x.setBottoms(0, 3);
        Check.due("4: it does not come down again", x.thing(0, 1), 1);
        x.undo();
        x.undo();
        Check.due("4: undone", x.thing(0, 1), 3);
    }

    private static void promise5() {
        DrawerCabinet x = Check.cabinet("ch*2;0h");
        Check.due("5: in", x.lay(11, 0, 2), 1);
        Check.due("5: deeper in", x.lay(0, 1, 0), 2);
        Check.due("5: it lies there", x.lay(11, 0, 2), NONE);
        Check.due("5: to another depth", x.lay(11, 0, 0), 2);
        Check.due("5: to another drawer", x.lay(11, 1, 0), 2);
        Check.due("5: told", x.thing(11, 0), 1);
        Check.due("5: to the table", x.lay(11, NONE, 0), 1);
        Check.due("5: on the table", x.lay(11, NONE, 0), NONE);
        Check.due("5: history", x.count(9), 4);
        x.undo();
        Check.due("5: undone", x.thing(11, 0), 1);
    }

    private static void promise5Errors() {
        DrawerCabinet x = Check.cabinet("ch*2;0h");
        int[][] unknown = {
            {-1, 0}, {12, 0}, {Integer.MAX_VALUE, 0}, {Integer.MIN_VALUE, NONE}, {0, 2}, {0, -1}, {0, 16},
            {0, Integer.MAX_VALUE}, {0, Integer.MIN_VALUE}, {-5, NONE},
        };
        for (int[] row : unknown) {
            Check.due("5: thing " + row[0] + " drawer " + row[1], x.lay(row[0], row[1], 9), UNKNOWN);
        }
        int[][] bad = {{0, -1}, {0, 3}, {1, 1}, {NONE, 1}, {NONE, -1}, {0, Integer.MAX_VALUE}, {0, Integer.MIN_VALUE}};
        for (int[] row : bad) {
            Check.due("5: drawer " + row[0] + " depth " + row[1], x.lay(0, row[0], row[1]), BAD_VALUE);
        }
        x.begin();
        Check.due("5: in a game", x.lay(0, 0, 0), NOT_POSSIBLE);
        Check.due("5: in a game, it lies there", x.lay(0, NONE, 0), NOT_POSSIBLE);
        Check.due("5: bad value before game", x.lay(0, 0, 3), BAD_VALUE);
        Check.due("5: unknown before game", x.lay(0, 2, 0), UNKNOWN);
    }
}
