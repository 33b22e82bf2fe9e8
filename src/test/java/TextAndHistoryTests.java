/** Promises 13 to 17: type, clearText, undo, keep, restore. */
public final class TextAndHistoryTests {
    private static final int FULL = DrawerCabinet.FULL;
    private static final int NOT_POSSIBLE = DrawerCabinet.NOT_POSSIBLE;
    private static final int NONE = DrawerCabinet.NONE;

    public static void main(String[] args) {
        promise13();
        promise14();
        promise15();
        promise15WholeState();
        promise16();
        promise17();
        Check.end();
    }

    private static void promise13() {
        DrawerCabinet x = new DrawerCabinet();
        char[] signs = {'c', 0, '\n', 127, 255, 256, 0x2028, 0xd800, 0xffff};
        for (int i = 0; i < 60; i++) {
            Check.due("13: sign " + i, x.type(signs[i % signs.length]), i + 1);
        }
        Check.due("13: full", x.type('c'), FULL);
        Check.due("13: still full", x.type((char) 0xffff), FULL);
        Check.due("13: length", x.count(10), 60);
        Check.due("13: no act", x.count(9), 0);
        Check.due("13: the fault", x.buildAll(), -101);
    }

    private static void promise14() {
        DrawerCabinet x = Check.cabinet("ch;0s");
        Check.due("14: clears", x.clearText(), 5);
        Check.due("14: empty", x.clearText(), 0);
        Check.due("14: length", x.count(10), 0);
        Check.due("14: no act", x.count(9), 1);
        Check.due("14: the empty text", x.buildAll(), -100);
        x.type('c');
        Check.due("14: what was there is gone", x.buildAll(), -101);
        x.undo();
        Check.due("14: undo leaves the text", x.count(10), 1);
    }

    private static void promise15() {
        DrawerCabinet x = new DrawerCabinet();
        Check.due("15: empty", x.undo(), NONE);
        for (int i = 0; i < 6; i++) {
            x.build(NONE, 0, 0, i);
            Check.due("15: states", x.count(9), Math.min(4, i + 1));
        }
        for (int left = 3; left >= 0; left--) {
            Check.due("15: left", x.undo(), left);
            Check.due("15: drawers", x.count(0), left + 2);
            Check.due("15: told", x.count(9), left);
        }
        Check.due("15: the oldest are gone", x.undo(), NONE);
        Check.due("15: nothing changed", x.count(0), 2);
        Check.due("15: builds on", x.build(NONE, 3, 0, 8), 2);
        Check.due("15: as a new one", x.drawer(2, 3), 8);
        Check.due("15: one state", x.undo(), 0);
    }

    private static void promise15WholeState() {
        DrawerCabinet x = Check.cabinet("cs*1;ck0");
        x.lay(0, 0, 1);
        x.begin();
        x.take(10);
        x.open(0);
        x.lift(0);
        x.take(0);
        int[] before = tell(x);
        x.giveUp();
        x.lay(5, 1, 0);
        x.setBottoms(1, 2);
        x.build(1, 0, 0, 5);
        for (int i = 0; i < 4; i++) {
            x.undo();
        }
        sameAs("15: all is as before", tell(x), before);
        Check.due("15: the game goes on", x.open(1), 2);
    }

    private static void promise16() {
        DrawerCabinet x = new DrawerCabinet();
        Check.due("16: of nothing", x.keep(), 0);
        Check.type(x, "ch;0h;cs");
        x.buildAll();
        Check.due("16: drawers", x.keep(), 3);
        Check.due("16: no act", x.count(9), 1);
        x.build(NONE, 0, 0, 0);
        Check.due("16: in place of the old one", x.keep(), 4);
        x.undo();
        Check.due("16: not undone", x.restore(), 4);
        x.begin();
        x.open(0);
        Check.due("16: in a game", x.keep(), 4);
        x.giveUp();
        x.restore();
        Check.due("16: the game is in it", x.count(2), 1);
    }

    private static void promise17() {
        DrawerCabinet x = Check.cabinet("cs*1;ck0");
        Check.due("17: no snapshot", x.restore(), NONE);
        Check.due("17: no snapshot, not recorded", x.count(9), 1);
        x.lay(0, 0, 1);
        x.begin();
        x.take(10);
        x.open(0);
        x.lift(0);
        x.keep();
        int[] kept = tell(x);
        x.take(0);
        x.open(1);
        x.giveUp();
        x.build(NONE, 0, 0, 0);
        x.clearText();
        Check.due("17: drawers", x.restore(), 2);
        sameAs("17: all is as kept", tell(x), kept);
        Check.due("17: the text is not in it", x.count(10), 0);
        Check.due("17: it is an act", x.undo(), 3);
        Check.due("17: undone", x.count(0), 3);
        Check.due("17: the snapshot stays", x.restore(), 2);
        x.take(0);
        x.close(0);
        Check.due("17: it does not follow", x.restore(), 2);
        sameAs("17: all is as kept still", tell(x), kept);
        Check.due("17: the game is in it", x.begin(), NOT_POSSIBLE);
        Check.due("17: history", x.count(9), 4);
        promise17OtherDrawers();
    }

    /** Another cabinet in the same rows comes wholly back. */
    private static void promise17OtherDrawers() {
        DrawerCabinet x = new DrawerCabinet();
        x.build(NONE, 3, 0, 9);
        x.build(0, 1, 4, 8);
        x.build(1, 2, 0, 7);
        x.setBottoms(2, 3);
        x.lay(0, 2, 3);
        x.lay(11, 1, 0);
        x.keep();
        int[] kept = tell(x);
        while (x.undo() > 0) {
            continue;
        }
        x.restore();
        sameAs("17: all is as kept", tell(x), kept);
        DrawerCabinet y = new DrawerCabinet();
        y.keep();
        y.build(NONE, 2, 5, 9);
        y.build(0, 2, 6, 8);
        y.build(0, 0, 0, 7);
        y.restore();
        y.build(NONE, 1, 1, 1);
        y.keep();
        y.undo();
        y.build(NONE, 2, 2, 2);
        y.restore();
        int[] want = {NONE, 1, 1, 1, 0, 0, 0, 0, 1, 0, 0};
        for (int what = 0; what < want.length; what++) {
            Check.due("17: drawer(0, " + what + ")", y.drawer(0, what), want[what]);
        }
        y.undo();
        Check.due("17: undone", y.drawer(0, 3), 2);
    }

    private static int[] tell(DrawerCabinet x) {
        int[] told = new int[600];
        int at = 0;
        for (int what = 0; what <= 8; what++) {
            told[at++] = x.count(what);
        }
        for (int drawer = 0; drawer < 4; drawer++) {
            for (int what = 0; what <= 10; what++) {
                told[at++] = x.drawer(drawer, what);
            }
        }
        for (int thing = 0; thing < 12; thing++) {
            for (int what = 0; what <= 3; what++) {
                told[at++] = x.thing(thing, what);
            }
        }
        told[at++] = x.minutesBits();
        return told;
    }

    private static void sameAs(String what, int[] got, int[] want) {
        for (int i = 0; i < want.length; i++) {
            Check.due(what + ", row " + i, got[i], want[i]);
        }
    }
}
