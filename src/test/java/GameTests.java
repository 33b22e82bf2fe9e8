/** Promises 6 to 12: begin, giveUp, open, close, lift, take, seal. */
public final class GameTests {
    private static final int UNKNOWN = DrawerCabinet.UNKNOWN;
    private static final int NOT_POSSIBLE = DrawerCabinet.NOT_POSSIBLE;
    private static final int NONE = DrawerCabinet.NONE;
    private static final int[] NO_DRAWERS = {-1, NONE, 4, 15, 16, 31, 32, Integer.MAX_VALUE, Integer.MIN_VALUE};

    public static void main(String[] args) {
        promise6();
        promise7();
        promise8Holds();
        promise8Errors();
        promise9();
        promise10();
        promise11();
        promise12();
        Check.end();
    }

    private static void promise6() {
        DrawerCabinet x = new DrawerCabinet();
        Check.due("6: no drawer", x.begin(), NOT_POSSIBLE);
        Check.due("6: not recorded", x.count(9), 0);
        x.build(NONE, 2, 1, 0);
        Check.due("6: no holder", x.begin(), NOT_POSSIBLE);
        x.build(NONE, 1, 5, 0);
        Check.due("6: begins", x.begin(), 2);
        Check.due("6: is told", x.count(1), 1);
        Check.due("6: minutes", x.minutes(), 0.0);
        Check.due("6: steps", x.count(5), 0);
        Check.due("6: again", x.begin(), NOT_POSSIBLE);
        Check.due("6: recorded", x.count(9), 3);
        x.undo();
        Check.due("6: undone", x.count(1), 0);
        DrawerCabinet y = Check.cabinet("cl0");
        Check.due("6: its own holder is there", y.begin(), 1);
    }

    private static void promise7() {
        DrawerCabinet x = Check.cabinet("cs*1;ch");
        x.lay(0, 0, 1);
        Check.due("7: no game", x.giveUp(), NOT_POSSIBLE);
        x.begin();
        Check.due("7: no steps", x.giveUp(), 0);
        x.begin();
        x.open(0);
        x.take(10);
        x.lift(0);
        x.take(0);
        Check.due("7: nothing in the drawer", x.drawer(0, 9), 0);
        Check.due("7: steps", x.giveUp(), 4);
        Check.due("7: no game is left", x.count(1), 0);
        int[] want = {0, 0, 0, 0};
        for (int i = 0; i < want.length; i++) {
            Check.due("7: count " + (i + 2), x.count(i + 2), want[i]);
        }
        Check.due("7: lifted", x.drawer(0, 5), 0);
        Check.due("7: broken", x.drawer(0, 7), 0);
        Check.due("7: bottoms", x.drawer(0, 4), 1);
        Check.due("7: the key lies there", x.thing(0, 0), 0);
        Check.due("7: at its depth", x.thing(0, 1), 1);
        Check.due("7: minutes", x.minutes(), -1.0);
        Check.due("7: twice", x.giveUp(), NOT_POSSIBLE);
        x.undo();
        Check.due("7: undone", x.count(5), 4);
        Check.due("7: undone, minutes", x.minutes(), 4.0);
        x.giveUp();
        x.begin();
        Check.due("7: a new game has no steps", x.count(5), 0);
        Check.due("7: and no minutes", x.minutes(), 0.0);
        x.open(0);
        Check.due("7: and its own bottoms", x.lift(0), NOT_POSSIBLE);
    }

    private static void promise8Holds() {
        DrawerCabinet x = new DrawerCabinet();
        x.build(NONE, 0, 0, 9);
        x.build(0, 1, 3, 2);
        x.build(NONE, 2, 1, 0);
        x.build(NONE, 3, 0, 1);
        x.lay(3, 0, 0);
        x.begin();
        Check.due("8: not reached", x.open(1), NOT_POSSIBLE);
        Check.due("8: a handle", x.open(0), 1);
        Check.due("8: minutes", x.minutes(), 3.25);
        Check.due("8: no key", x.open(1), NOT_POSSIBLE);
        Check.due("8: the holder is closed", x.open(2), NOT_POSSIBLE);
        x.take(3);
        Check.due("8: a lock", x.open(1), 2);
        Check.due("8: minutes", x.minutes(), 5.0);
        x.close(0);
        Check.due("8: a holder that is open and not reached", x.open(2), 2);
        Check.due("8: open and not reached", x.open(1), NONE);
        Check.due("8: a seal", x.open(3), 3);
        Check.due("8: it is broken", x.drawer(3, 7), 1);
        Check.due("8: no other one is", x.count(4), 1);
        x.close(3);
        Check.due("8: a broken seal", x.open(3), 3);
        Check.due("8: it stays broken", x.count(4), 1);
        Check.due("8: steps", x.count(5), 8);
        x.undo();
        Check.due("8: undone", x.drawer(3, 6), 0);
        Check.due("8: that alone", x.count(5), 7);
    }

    private static void promise8Errors() {
        DrawerCabinet x = Check.cabinet("ch;ck0;cl0;cs");
        for (int drawer : NO_DRAWERS) {
            Check.due("8: drawer " + drawer, x.open(drawer), UNKNOWN);
        }
        Check.due("8: without a game", x.open(0), NOT_POSSIBLE);
        x.begin();
        for (int drawer : NO_DRAWERS) {
            Check.due("8: drawer in a game " + drawer, x.open(drawer), UNKNOWN);
        }
        x.open(0);
        int before = x.count(9);
        Check.due("8: open", x.open(0), NONE);
        Check.due("8: locked", x.open(1), NOT_POSSIBLE);
        Check.due("8: not recorded", x.count(9), before);
        Check.due("8: no step", x.count(5), 1);
        x.take(1);
        Check.due("8: another key", x.open(1), NOT_POSSIBLE);
    }

    private static void promise9() {
        DrawerCabinet x = Check.cabinet("ch*1;0s;1h");
        x.build(NONE, 0, 0, 7);
        for (int drawer : NO_DRAWERS) {
            Check.due("9: drawer " + drawer, x.close(drawer), UNKNOWN);
        }
        Check.due("9: without a game", x.close(0), NOT_POSSIBLE);
        x.begin();
        Check.due("9: closed", x.close(0), NONE);
        Check.due("9: closed and not reached", x.close(2), NONE);
        x.take(10);
        x.open(0);
        x.open(1);
        x.open(2);
        x.lift(0);
        x.open(3);
        Check.due("9: closes", x.close(3), 3);
        Check.due("9: minutes", x.minutes(), 0.25 + 3.0 + 2.5 + 2.75 + 2.75);
        Check.due("9: the outermost", x.close(0), 2);
        Check.due("9: bottoms stay lifted", x.drawer(0, 5), 1);
        Check.due("9: what is in it stays open", x.drawer(1, 6), 1);
        Check.due("9: its seal stays broken", x.drawer(1, 7), 1);
        Check.due("9: not reached", x.close(1), NOT_POSSIBLE);
        Check.due("9: not reached at all", x.close(2), NOT_POSSIBLE);
        Check.due("9: steps", x.count(5), 8);
        x.undo();
        Check.due("9: undone", x.drawer(0, 6), 1);
        Check.due("9: that alone", x.count(5), 7);
        DrawerCabinet y = Check.cabinet("ch;cl0");
        y.begin();
        y.open(0);
        y.open(1);
        Check.due("9: a holder closes", y.close(0), 1);
        Check.due("9: what it held stays open", y.drawer(1, 6), 1);
        Check.due("9: a held one closes", y.close(1), 0);
        Check.due("9: and is held again", y.open(1), NOT_POSSIBLE);
    }

    private static void promise10() {
        DrawerCabinet x = Check.cabinet("ch*2;0h*3;ch;ck0*1");
        for (int drawer : NO_DRAWERS) {
            Check.due("10: drawer " + drawer, x.lift(drawer), UNKNOWN);
        }
        Check.due("10: without a game", x.lift(0), NOT_POSSIBLE);
        Check.due("10: without a game, no bottoms", x.lift(2), NOT_POSSIBLE);
        x.begin();
        Check.due("10: no bottoms", x.lift(2), NONE);
        Check.due("10: closed", x.lift(0), NOT_POSSIBLE);
        x.open(0);
        Check.due("10: no knife", x.lift(0), NOT_POSSIBLE);
        x.take(11);
        Check.due("10: the stamp is no knife", x.lift(0), NOT_POSSIBLE);
        x.take(10);
        Check.due("10: the first", x.lift(0), 1);
        Check.due("10: the second", x.lift(0), 2);
        Check.due("10: no third", x.lift(0), NONE);
        Check.due("10: minutes", x.minutes(), 6.5);
        Check.due("10: the inner one is closed", x.lift(1), NOT_POSSIBLE);
        x.open(1);
        Check.due("10: the inner one", x.lift(1), 1);
        x.close(0);
        Check.due("10: not reached", x.lift(1), NOT_POSSIBLE);
        Check.due("10: all lifted though closed", x.lift(0), NONE);
        Check.due("10: steps", x.count(5), 8);
        x.undo();
        x.undo();
        Check.due("10: undone", x.drawer(1, 5), 0);
        Check.due("10: that alone", x.count(5), 6);
    }

    private static void promise11() {
        DrawerCabinet x = Check.cabinet("ch*2;0h");
        int[] things = {-1, 12, NONE, 31, 32, Integer.MAX_VALUE, Integer.MIN_VALUE};
        for (int thing : things) {
            Check.due("11: thing " + thing, x.take(thing), UNKNOWN);
        }
        x.lay(0, 0, 0);
        x.lay(1, 0, 1);
        x.lay(2, 0, 2);
        x.lay(3, 1, 0);
        Check.due("11: without a game", x.take(9), NOT_POSSIBLE);
        x.begin();
        Check.due("11: from the table", x.take(10), 1);
        Check.due("11: in hand", x.take(10), NONE);
        Check.due("11: from a closed drawer", x.take(0), NOT_POSSIBLE);
        x.open(0);
        Check.due("11: from an open one", x.take(0), 2);
        Check.due("11: under a bottom", x.take(1), NOT_POSSIBLE);
        x.lift(0);
        Check.due("11: under two", x.take(2), NOT_POSSIBLE);
        Check.due("11: under the lifted one", x.take(1), 3);
        x.lift(0);
        x.open(1);
        x.close(0);
        Check.due("11: all lifted, but closed", x.take(2), NOT_POSSIBLE);
        Check.due("11: open, but not reached", x.take(3), NOT_POSSIBLE);
        x.open(0);
        Check.due("11: under two lifted ones", x.take(2), 4);
        Check.due("11: from within", x.take(3), 5);
        Check.due("11: minutes", x.minutes(), 5 * 0.25 + 2 * 2.5 + 4.0);
        Check.due("11: steps", x.count(5), 11);
        Check.due("11: from nowhere", x.take(12), UNKNOWN);
        Check.due("11: in hand though a drawer is closed", x.close(0) + x.take(3), 1 + NONE);
        x.undo();
        x.undo();
        Check.due("11: undone", x.thing(3, 2), 0);
        Check.due("11: that alone", x.count(5), 10);
    }

    private static void promise12() {
        DrawerCabinet x = Check.cabinet("ch;0s;cs;ch");
        for (int drawer : NO_DRAWERS) {
            Check.due("12: drawer " + drawer, x.seal(drawer), UNKNOWN);
        }
        Check.due("12: without a game", x.seal(0), NOT_POSSIBLE);
        Check.due("12: without a game, whole", x.seal(2), NOT_POSSIBLE);
        x.begin();
        Check.due("12: no seal", x.seal(0), NONE);
        Check.due("12: whole", x.seal(2), NONE);
        x.open(0);
        x.open(1);
        x.open(2);
        Check.due("12: no seal and open", x.seal(0), NONE);
        x.close(1);
        Check.due("12: no stamp", x.seal(1), NOT_POSSIBLE);
        x.take(10);
        Check.due("12: the knife is no stamp", x.seal(1), NOT_POSSIBLE);
        x.take(11);
        Check.due("12: open", x.seal(2), NOT_POSSIBLE);
        x.close(0);
        Check.due("12: not reached", x.seal(1), NOT_POSSIBLE);
        x.open(0);
        Check.due("12: sealed", x.seal(1), 1);
        Check.due("12: minutes", x.minutes(), 6.0 + 0.5 + 3.0);
        Check.due("12: whole again", x.seal(1), NONE);
        x.close(2);
        Check.due("12: the other one", x.seal(2), 0);
        Check.due("12: steps", x.count(5), 11);
        x.undo();
        Check.due("12: undone", x.count(4), 1);
        Check.due("12: that alone", x.count(5), 10);
    }
}
