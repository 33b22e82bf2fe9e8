/** What a cabinet tells of its state: all but the text, the history and the snapshot. */
final class Told {
    private Told() {
    }

    /** Takes 60 calls, and 11 more for each drawer: an object has 512. */
    static int[] state(DrawerCabinet x) {
        int drawers = Math.max(0, x.count(0));
        int[] told = new int[58 + 11 * drawers];
        int at = 0;
        for (int what = 0; what <= 8; what++) {
            told[at++] = x.count(what);
        }
        for (int thing = 0; thing < 12; thing++) {
            for (int what = 0; what <= 3; what++) {
                told[at++] = x.thing(thing, what);
            }
        }
        told[at++] = Float.floatToIntBits((float) x.minutes());
        for (int drawer = 0; drawer < drawers; drawer++) {
            for (int what = 0; what <= 10; what++) {
                told[at++] = x.drawer(drawer, what);
            }
        }
        return told;
    }

    static void same(String what, int[] got, int[] want) {
        Check.due(what + ": as many rows", got.length, want.length);
        for (int i = 0; i < Math.min(got.length, want.length); i++) {
            Check.due(what + ": row " + i, got[i], want[i]);
        }
    }

    /** An act that is to be recorded. */
    interface Act {
        int on(DrawerCabinet x);
    }

    /** Sees that an act answers what is due, records one state, and that undo brings that one back. */
    static void recorded(DrawerCabinet x, int answer, Act act) {
        makeRoom(x);
        int[] before = state(x);
        Check.due("the act", act.on(x), answer);
        Check.due("the states with it", x.count(9), 2);
        Check.due("undo of the act", x.undo(), 1);
        same("after undo", state(x), before);
        Check.due("the act again", act.on(x), answer);
    }

    /** Leaves the state as it is, with one state in the history. */
    private static void makeRoom(DrawerCabinet x) {
        x.keep();
        for (int i = 0; i < 4; i++) {
            x.undo();
        }
        x.restore();
        Check.due("the states before it", x.count(9), 1);
    }
}
