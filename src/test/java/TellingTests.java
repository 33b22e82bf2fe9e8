/** Promises 18 to 24: drawer, thing, needs, hint, minutes, minutesBits, count. */
public final class TellingTests {
    private static final int UNKNOWN = DrawerCabinet.UNKNOWN;
    private static final int BAD_VALUE = DrawerCabinet.BAD_VALUE;
    private static final int NOT_POSSIBLE = DrawerCabinet.NOT_POSSIBLE;
    private static final int NONE = DrawerCabinet.NONE;
    private static final int[] STRANGE = {-1, NONE, 16, 31, 32, Integer.MAX_VALUE, Integer.MIN_VALUE};

    public static void main(String[] args) {
        promise18();
        promise19();
        promise20();
        promise20Bottoms();
        promise20NotPossible();
        promise20InTheGame();
        promise20Deepest();
        promise21();
        promise21Order();
        promise22And23();
        promise24();
        promise24Sets();
        wrongArguments();
        Check.end();
    }

    private static void dueDrawer(String what, DrawerCabinet x, int drawer, int... want) {
        for (int i = 0; i < want.length; i++) {
            Check.due(what + ": drawer(" + drawer + ", " + i + ")", x.drawer(drawer, i), want[i]);
        }
    }

    private static void dueThing(String what, DrawerCabinet x, int thing, int... want) {
        for (int i = 0; i < want.length; i++) {
            Check.due(what + ": thing(" + thing + ", " + i + ")", x.thing(thing, i), want[i]);
        }
    }

    private static void dueNeeds(String what, DrawerCabinet x, int drawer, int... want) {
        for (int i = 0; i < want.length; i++) {
            Check.due(what + ": needs(" + drawer + ", " + i + ")", x.needs(drawer, i), want[i]);
        }
    }

    private static void notPossible(String what, DrawerCabinet x, int drawer) {
        dueNeeds(what, x, drawer, NOT_POSSIBLE, NOT_POSSIBLE, NOT_POSSIBLE, NOT_POSSIBLE, NOT_POSSIBLE);
    }

    private static void promise18() {
        DrawerCabinet x = Check.cabinet("cs*2;0k7;1l0");
        x.lay(7, 0, 2);
        x.lay(1, 0, 0);
        x.lay(2, 1, 0);
        dueDrawer("18: laid", x, 0, NONE, 3, NONE, 0, 2, 0, 0, 0, 1, 2, 0);
        dueDrawer("18: laid", x, 1, 0, 1, 7, 0, 0, 0, 0, 0, 0, 1, 1);
        dueDrawer("18: laid", x, 2, 1, 2, 0, 0, 0, 0, 0, 0, 0, 0, 2);
        x.begin();
        x.open(0);
        x.take(10);
        x.lift(0);
        x.lift(0);
        x.take(7);
        x.open(1);
        dueDrawer("18: in the game", x, 0, NONE, 3, NONE, 0, 2, 2, 1, 1, 1, 1, 0);
        dueDrawer("18: in the game", x, 1, 0, 1, 7, 0, 0, 0, 1, 0, 1, 1, 1);
        dueDrawer("18: in the game", x, 2, 1, 2, 0, 0, 0, 0, 0, 0, 1, 0, 2);
        x.close(0);
        dueDrawer("18: closed", x, 0, NONE, 3, NONE, 0, 2, 2, 0, 1, 1, 1, 0);
        dueDrawer("18: closed", x, 1, 0, 1, 7, 0, 0, 0, 1, 0, 0, 1, 1);
        dueDrawer("18: closed", x, 2, 1, 2, 0, 0, 0, 0, 0, 0, 0, 0, 2);
        DrawerCabinet y = Check.cabinet("ch;ch");
        for (int thing = 0; thing < 12; thing++) {
            y.lay(thing, thing % 2, 0);
            Check.due("18: things", y.drawer(thing % 2, 9), thing / 2 + 1);
        }
    }

    private static void promise19() {
        DrawerCabinet x = Check.cabinet("ch*1");
        x.lay(4, 0, 1);
        dueThing("19: laid", x, 4, 0, 1, 0, 0);
        dueThing("19: on the table", x, 5, NONE, 0, 0, 0);
        x.begin();
        dueThing("19: in a closed drawer", x, 4, 0, 1, 0, 0);
        dueThing("19: on the table in a game", x, 5, NONE, 0, 0, 1);
        x.open(0);
        dueThing("19: under a bottom", x, 4, 0, 1, 0, 0);
        x.take(10);
        x.lift(0);
        dueThing("19: free", x, 4, 0, 1, 0, 1);
        x.take(4);
        dueThing("19: in hand", x, 4, NONE, 0, 1, 0);
        x.giveUp();
        dueThing("19: laid again", x, 4, 0, 1, 0, 0);
    }

    private static void promise20() {
        DrawerCabinet x = Check.cabinet("ch;cs;1s;2k3;cl3;ch;cl9");
        x.lay(3, 5, 0);
        dueNeeds("20: a handle", x, 0, 1, 1, 0, 0, 0);
        dueNeeds("20: a seal", x, 1, 1, 2, 0, 0, 1);
        dueNeeds("20: within", x, 2, 2, 6, 0, 0, 2);
        dueNeeds("20: a lock within", x, 3, 5, 32 + 14, 8, 0, 2);
        dueNeeds("20: a lever", x, 4, 6, 32 + 30, 8, 0, 2);
        notPossible("20: a holder that is not there", x, 6);
        Check.due("20: no act", x.count(9), 2);
    }

    private static void promise20Bottoms() {
        DrawerCabinet x = Check.cabinet("ch*3;ck0;ck1;ch*2;3h");
        x.lay(0, 0, 3);
        x.lay(10, 3, 0);
        dueNeeds("20: three bottoms", x, 1, 8, 1 + 2 + 8, 1 + 1024, 3, 0);
        x.lay(1, 0, 1);
        dueNeeds("20: one bottom", x, 2, 6, 1 + 4 + 8, 2 + 1024, 1, 0);
        x.lay(10, 4, 0);
        dueNeeds("20: the knife within", x, 2, 7, 1 + 4 + 8 + 16, 2 + 1024, 1, 0);
        x.lay(0, 1, 0);
        notPossible("20: a key in its own drawer", x, 1);
        x.lay(0, 2, 0);
        dueNeeds("20: a key behind a key", x, 1, 9, 31, 3 + 1024, 1, 0);
        x.lay(10, 3, 1);
        notPossible("20: the knife under a bottom", x, 1);
        notPossible("20: the knife under a bottom", x, 2);
        dueNeeds("20: nothing in it is needed", x, 4, 2, 8 + 16, 0, 0, 0);
    }

    private static void promise20NotPossible() {
        DrawerCabinet x = Check.cabinet("cl0;cl2;cl1;2h;cl1;ck5;5h;ck6;7h");
        for (int drawer = 0; drawer < 5; drawer++) {
            notPossible("20: round levers", x, drawer);
        }
        dueNeeds("20: the key on the table", x, 5, 2, 32, 32, 0, 0);
        x.lay(5, 6, 0);
        notPossible("20: the key within", x, 5);
        notPossible("20: what lies within", x, 6);
        x.lay(5, 8, 0);
        dueNeeds("20: the key elsewhere", x, 5, 5, 32 + 128 + 256, 32 + 64, 0, 0);
        x.lay(6, 6, 0);
        notPossible("20: keys crosswise", x, 5);
        notPossible("20: keys crosswise", x, 8);
        DrawerCabinet y = Check.cabinet("cl1;0h");
        notPossible("20: a lever from within", y, 0);
        notPossible("20: a lever from within", y, 1);
    }

    private static void promise20InTheGame() {
        DrawerCabinet x = Check.cabinet("cs;0s*2;1h;cl2;ck1");
        x.lay(1, 1, 2);
        x.begin();
        dueNeeds("20: at the beginning", x, 4, 7, 1 + 2 + 16, 2 + 1024, 2, 2);
        x.open(0);
        x.open(1);
        x.take(10);
        x.lift(1);
        dueNeeds("20: half done", x, 4, 3, 16, 2, 1, 0);
        x.open(2);
        x.close(0);
        dueNeeds("20: broken seals do not count", x, 4, 4, 1 + 16, 2, 1, 0);
        dueNeeds("20: open, but not reached", x, 2, 1, 1, 0, 0, 0);
        dueNeeds("20: a holder that is open is enough", x, 3, 1, 8, 0, 0, 0);
        x.take(11);
        x.seal(0);
        dueNeeds("20: a new seal counts", x, 2, 1, 1, 0, 0, 1);
        x.open(0);
        dueNeeds("20: open and reached", x, 2, 0, 0, 0, 0, 0);
        x.close(2);
        dueNeeds("20: a holder that was closed again", x, 3, 2, 4 + 8, 0, 0, 0);
        x.lift(1);
        x.take(1);
        x.close(1);
        dueNeeds("20: the key is in hand", x, 4, 1, 16, 0, 0, 0);
        x.giveUp();
        dueNeeds("20: without a game again", x, 4, 7, 1 + 2 + 16, 2 + 1024, 2, 2);
    }

    /** A run through all drawers and most things, so that no bound of a loop is too low. */
    private static void promise20Deepest() {
        DrawerCabinet x = new DrawerCabinet();
        x.build(NONE, 0, 0, 0);
        for (int drawer = 1; drawer < 16; drawer++) {
            x.build(drawer - 1, drawer <= 10 ? 1 : 3, 10 - drawer, 0);
        }
        for (int drawer = 0; drawer < 16; drawer++) {
            x.setBottoms(drawer, 3);
        }
        for (int key = 0; key < 10; key++) {
            x.lay(9 - key, key, 3);
        }
        dueNeeds("20: the deepest", x, 15, 16 + 11 + 30, 0xffff, 0x7ff, 30, 5);
        Check.due("20: it can be solved", x.count(6), 1);
        x.lay(10, 0, 1);
        Check.due("20: but for the knife", x.count(7), 0xfffe);
        DrawerCabinet y = new DrawerCabinet();
        for (int drawer = 0; drawer < 15; drawer++) {
            y.build(NONE, 2, drawer + 1, 0);
        }
        y.build(NONE, 0, 0, 0);
        dueNeeds("20: a chain of levers", y, 0, 16, 0xffff, 0, 0, 0);
    }

    private static void promise21() {
        DrawerCabinet x = Check.cabinet("ch*1;ck2;cs;2h");
        x.lay(2, 0, 1);
        Check.due("21: without a game", x.hint(3), NOT_POSSIBLE);
        x.begin();
        Check.due("21: opens the outer one", x.hint(3), 102);
        Check.due("21: opens where the key lies", x.hint(1), 100);
        x.open(0);
        Check.due("21: takes the knife", x.hint(1), 210);
        x.take(10);
        Check.due("21: lifts", x.hint(1), 300);
        x.lift(0);
        Check.due("21: takes the key", x.hint(1), 202);
        x.take(2);
        Check.due("21: opens", x.hint(1), 101);
        x.open(1);
        Check.due("21: nothing is needed", x.hint(1), NONE);
        Check.due("21: a hint is no act", x.count(5), 5);
        DrawerCabinet y = Check.cabinet("ch;cl1;1h");
        Check.due("21: without a game and not possible", y.hint(1), NOT_POSSIBLE);
        y.begin();
        Check.due("21: not possible", y.hint(1), NOT_POSSIBLE);
        Check.due("21: not possible within", y.hint(2), NOT_POSSIBLE);
        Check.due("21: possible", y.hint(0), 100);
    }

    private static void promise21Order() {
        DrawerCabinet x = Check.cabinet("ch*1;ch*1;0k1;2k0;3k2;ch;5h");
        x.lay(1, 1, 1);
        x.lay(0, 0, 1);
        x.begin();
        Check.due("21: openings by number", x.hint(4), 100);
        x.open(0);
        Check.due("21: then the next", x.hint(4), 101);
        x.open(1);
        Check.due("21: takings by number", x.hint(4), 202);
        x.take(2);
        Check.due("21: then the knife", x.hint(4), 210);
        x.take(10);
        Check.due("21: liftings by drawer", x.hint(4), 300);
        x.lift(0);
        Check.due("21: a taking before a lifting", x.hint(4), 200);
        x.take(0);
        Check.due("21: then the other lifting", x.hint(4), 301);
        x.lift(1);
        x.take(1);
        Check.due("21: an opening again", x.hint(4), 102);
        x.open(5);
        x.open(6);
        x.close(5);
        Check.due("21: open, but not reached", x.hint(6), 105);
        DrawerCabinet y = Check.cabinet("ch*1;ch*2;ck0;ch");
        y.lay(0, 1, 1);
        y.begin();
        Check.due("21: no opening that is not needed", y.hint(3), 103);
        y.open(0);
        y.open(1);
        Check.due("21: no taking that is not needed", y.hint(2), 210);
        y.take(10);
        Check.due("21: no lifting that is not needed", y.hint(2), 301);
        y.lift(1);
        Check.due("21: no second lifting", y.hint(2), 200);
    }

    private static void promise22And23() {
        DrawerCabinet x = Check.cabinet("cs*3");
        int fastest = x.build(NONE, 0, 0, 0);
        int stiffest = x.build(NONE, 0, 0, 9);
        Check.due("22: without a game", x.minutes(), -1.0);
        Check.due("23: without a game", x.minutesBits(), 0);
        x.begin();
        double want = 0.0;
        dueMinutes("at the beginning", x, want);
        x.take(11);
        dueMinutes("a taking", x, want += 0.25);
        x.take(10);
        dueMinutes("another taking", x, want += 0.25);
        x.take(0);
        dueMinutes("a third taking", x, want += 0.25);
        x.open(0);
        dueMinutes("a seal", x, want += 1.0);
        x.lift(0);
        dueMinutes("a lifting", x, want += 2.5);
        x.close(0);
        dueMinutes("a closing", x, want += 1.0);
        x.seal(0);
        dueMinutes("a sealing", x, want += 3.0);
        x.open(9);
        x.open(0);
        x.open(0);
        dueMinutes("no error takes time", x, want += 1.0);
        for (int i = 0; i < 150; i++) {
            x.open(stiffest);
            dueMinutes("a stiff opening", x, want += 3.25);
            x.close(stiffest);
            dueMinutes("a stiff closing", x, want += 3.25);
        }
        x.open(fastest);
        dueMinutes("an opening", x, want += 1.0);
        x.undo();
        dueMinutes("undone", x, want - 1.0);
        x.giveUp();
        Check.due("22: given up", x.minutes(), -1.0);
        Check.due("23: given up", x.minutesBits(), 0);
    }

    private static void dueMinutes(String what, DrawerCabinet x, double want) {
        Check.due("22: " + what, x.minutes(), want);
        Check.due("23: " + what, x.minutesBits(), Float.floatToIntBits((float) want));
    }

    private static void dueCounts(String what, DrawerCabinet x, int... want) {
        for (int i = 0; i < want.length; i++) {
            Check.due(what + ": count(" + i + ")", x.count(i), want[i]);
        }
    }

    private static void promise24() {
        DrawerCabinet x = Check.cabinet("cs*1;0h;ck3;cl2");
        x.lay(3, 0, 1);
        dueCounts("24: laid", x, 4, 0, 0, 0, 0, 0, 1, 0, 0, 2, 15);
        x.begin();
        dueCounts("24: begun", x, 4, 1, 0, 0, 0, 0, 1, 0, 1, 3, 15);
        x.open(0);
        dueCounts("24: one open", x, 4, 1, 1, 0, 1, 1, 1, 0, 2, 4, 15);
        x.open(1);
        x.take(10);
        x.take(11);
        x.lift(0);
        x.take(3);
        dueCounts("24: with the key", x, 4, 1, 2, 8 + 1024 + 2048, 1, 6, 1, 0, 4, 4, 15);
        x.open(2);
        x.close(0);
        dueCounts("24: closed", x, 4, 1, 2, 8 + 1024 + 2048, 1, 8, 1, 0, 1 + 8, 4, 15);
        x.giveUp();
        dueCounts("24: given up", x, 4, 0, 0, 0, 0, 0, 1, 0, 0, 4, 15);
    }

    private static void promise24Sets() {
        DrawerCabinet x = Check.cabinet("ch;cl9;1h;ck4;3h;cl2;ch");
        x.lay(4, 0, 0);
        dueCounts("24: no holder", x, 7, 0, 0, 0, 0, 0, 0, 2 + 4 + 32);
        x.lay(4, 3, 0);
        dueCounts("24: the key within", x, 7, 0, 0, 0, 0, 0, 0, 2 + 4 + 8 + 16 + 32);
        DrawerCabinet y = Check.cabinet("ch;cl1;ck4;cs");
        y.lay(4, 2, 0);
        y.begin();
        y.open(0);
        dueCounts("24: in a game as at its beginning", y, 4, 1, 1, 0, 0, 1, 0, 2 + 4, 8);
    }

    private static void wrongArguments() {
        DrawerCabinet x = Check.cabinet("ch;cl1");
        for (int game = 0; game < 2; game++) {
            for (int strange : STRANGE) {
                Check.due("18: drawer " + strange, x.drawer(strange, 99), UNKNOWN);
                Check.due("19: thing " + strange, x.thing(strange, 99), UNKNOWN);
                Check.due("20: drawer " + strange, x.needs(strange, 99), UNKNOWN);
                Check.due("21: drawer " + strange, x.hint(strange), UNKNOWN);
                Check.due("18: what " + strange, x.drawer(0, strange), BAD_VALUE);
                Check.due("19: what " + strange, x.thing(0, strange), BAD_VALUE);
                Check.due("20: what " + strange, x.needs(1, strange), BAD_VALUE);
                Check.due("24: what " + strange, x.count(strange), BAD_VALUE);
            }
            Check.due("18: what 11", x.drawer(0, 11), BAD_VALUE);
            Check.due("19: what 4", x.thing(0, 4), BAD_VALUE);
            Check.due("20: what 5", x.needs(0, 5), BAD_VALUE);
            Check.due("24: what 11", x.count(11), BAD_VALUE);
            Check.due("18: drawer 2", x.drawer(2, 0), UNKNOWN);
            Check.due("19: thing 12", x.thing(12, 0), UNKNOWN);
            Check.due("20: drawer 2", x.needs(2, 0), UNKNOWN);
            Check.due("21: drawer 2", x.hint(2), UNKNOWN);
            x.begin();
        }
    }
}
