/** Long runs of calls, on the class and on the model at once; a run is made from its number alone. */
public final class ModelTests {
    private static final int NONE = DrawerCabinet.NONE;
    private static final int RUNS = 1500;
    /** A last act may type a whole text; the 512 calls of an object are not passed by it. */
    private static final int CALLS = 430;
    private static final String SIGNS = "cccc;;;;;hhhklls*0123456789x";
    private static final int[] STRANGE = {
        Integer.MIN_VALUE, -32, -16, -6, NONE, -4, -3, -2, -1, 0, 0, 1, 1, 2, 3, 4, 5, 9, 10, 11, 12, 15, 16, 17, 31, 32, 33, 64,
        Integer.MAX_VALUE,
    };

    private long seed;
    private int run;
    private DrawerCabinet real;
    private Model model;
    private int hinted;
    private int needed;
    private int longest;
    private int ended;

    public static void main(String[] args) {
        ModelTests tests = new ModelTests();
        for (int i = 0; i < RUNS && Check.wrongAnswers() == 0; i++) {
            tests.runOnce(i);
        }
        System.out.println(tests.hinted + " hints followed, " + tests.needed + " long needs, the longest " + tests.longest + ", "
            + tests.ended + " cabinets all open");
        Check.holds("runs follow hints", tests.hinted > 10 * RUNS);
        Check.holds("runs have long needs", tests.needed > RUNS);
        Check.holds("runs open all", tests.ended > RUNS / 50);
        Check.end();
    }

    private int next(int bound) {
        seed = seed * 6364136223846793005L + 1442695040888963407L;
        return (int) ((seed >>> 33) % bound);
    }

    private void runOnce(int number) {
        run = number;
        seed = number * 7919L + 17;
        next(2);
        real = new DrawerCabinet();
        model = new Model();
        int calls = number % 2 == 0 ? 0 : buildSolvable();
        while (calls < CALLS && Check.wrongAnswers() == 0) {
            calls += act();
            if (next(6) == 0) {
                calls += tell();
            }
        }
    }

    /** Builds a large cabinet in which each drawer needs mostly what lies in lower ones, and begins a game. */
    private int buildSolvable() {
        int drawers = 6 + next(11);
        for (int drawer = 0; drawer < drawers; drawer++) {
            int outer = drawer == 0 || next(3) == 0 ? NONE : next(drawer);
            int hold = drawer == 0 ? 0 : drawer < 10 && next(2) == 0 ? 1 : next(4);
            int by = hold == 2 ? next(next(40) == 0 ? drawers : drawer) : Math.min(drawer, next(40) == 0 ? 1 : 9);
            int stiffness = next(10);
            int bottoms = next(4);
            due("build", real.build(outer, hold, by, stiffness), model.build(outer, hold, by, stiffness));
            due("setBottoms", real.setBottoms(drawer, bottoms), model.setBottoms(drawer, bottoms));
        }
        for (int thing = 0; thing < 12; thing++) {
            int drawer = next(thing >= 10 ? 1 : next(40) == 0 ? drawers : Math.max(1, Math.min(thing, drawers)));
            int depth = thing == 10 && next(8) != 0 ? 0 : next(1 + model.drawer(drawer, 4));
            due("lay", real.lay(thing, drawer, depth), model.lay(thing, drawer, depth));
        }
        int calls = 2 * drawers + 13;
        for (int i = 0; i < 5; i++) {
            calls += tellNeeds(anyDrawer());
        }
        due("begin", real.begin(), model.begin());
        return calls;
    }

    private void due(String call, int got, int want) {
        Check.due("run " + run + ": " + call, got, want);
    }

    private int act() {
        boolean game = model.count(1) == 1;
        if (next(15) == 0) {
            return wild();
        }
        int kind = next(100);
        if (kind < 4) {
            return history();
        }
        if (kind < (run % 2 == 0 ? 12 : 5)) {
            return type();
        }
        if (game ? kind < 14 : kind < 90) {
            return build();
        }
        if (game && kind < 50) {
            return follow();
        }
        return play();
    }

    private int strange() {
        return STRANGE[next(STRANGE.length)];
    }

    /** A call with arguments from far outside, or from just outside, or fitting by chance. */
    private int wild() {
        int a = strange();
        int b = strange();
        int c = strange();
        int d = strange();
        switch (next(12)) {
            case 0: due("build", real.build(a, b, c, d), model.build(a, b, c, d)); break;
            case 1: due("setBottoms", real.setBottoms(a, b), model.setBottoms(a, b)); break;
            case 2: due("lay", real.lay(a, b, c), model.lay(a, b, c)); break;
            case 3: due("open", real.open(a), model.open(a)); break;
            case 4: due("close", real.close(a), model.close(a)); break;
            case 5: due("lift", real.lift(a), model.lift(a)); break;
            case 6: due("take", real.take(a), model.take(a)); break;
            case 7: due("seal", real.seal(a), model.seal(a)); break;
            case 8: due("drawer", real.drawer(a, b), model.drawer(a, b)); break;
            case 9: due("thing", real.thing(a, b), model.thing(a, b)); break;
            case 10: due("needs", real.needs(a, b), model.needs(a, b)); break;
            default: due("hint", real.hint(a), model.hint(a)); break;
        }
        return 1;
    }

    private int history() {
        switch (next(4)) {
            case 0: due("keep", real.keep(), model.keep()); break;
            case 1: due("restore", real.restore(), model.restore()); break;
            default: due("undo", real.undo(), model.undo()); break;
        }
        return 1;
    }

    private int type() {
        int calls = 1;
        if (next(4) != 0) {
            due("clearText", real.clearText(), model.clearText());
        }
        String text = next(3) == 0 ? wildText() : goodText();
        for (int i = 0; i < text.length(); i++) {
            due("type", real.type(text.charAt(i)), model.type(text.charAt(i)));
            calls++;
        }
        due("buildAll", real.buildAll(), model.buildAll());
        return calls + 1;
    }

    private String wildText() {
        StringBuilder text = new StringBuilder();
        int length = next(10);
        for (int i = 0; i < length; i++) {
            text.append(SIGNS.charAt(next(SIGNS.length())));
        }
        return text.toString();
    }

    private String goodText() {
        StringBuilder text = new StringBuilder();
        int drawers = 1 + next(4);
        int there = model.count(0);
        for (int i = 0; i < drawers; i++) {
            text.append(i == 0 ? "" : ";");
            text.append(there + i > 0 && next(2) == 0 ? "" + next(Math.min(16, there + i)) : "c");
            int hold = next(5);
            int holder = next(Math.min(16, there + drawers + next(2)));
            text.append(hold == 0 ? "k" + next(10) : hold == 1 ? "l" + holder : hold == 2 ? "s" : "h");
            text.append(next(3) == 0 ? "*" + (1 + next(3)) : "");
        }
        return text.toString();
    }

    private int anyDrawer() {
        int there = model.count(0);
        return next(25) == 0 ? next(20) - 6 : next(Math.max(1, there));
    }

    private int build() {
        int drawer = next(3) == 0 ? NONE : anyDrawer();
        int depth = next(10) == 0 ? next(6) - 1 : next(2);
        int thing = next(25) == 0 ? next(16) - 2 : next(2) == 0 ? 10 * next(2) : next(12);
        switch (next(8)) {
            case 0:
            case 1:
            case 2:
                int hold = next(25) == 0 ? next(8) - 2 : next(4);
                int by = next(25) == 0 ? next(20) - 2 : next(Math.min(16, 1 + model.count(0)));
                int stiffness = next(25) == 0 ? next(14) - 2 : next(10);
                due("build", real.build(drawer, hold, by, stiffness), model.build(drawer, hold, by, stiffness));
                break;
            case 3:
                due("setBottoms", real.setBottoms(drawer, depth), model.setBottoms(drawer, depth));
                break;
            case 4:
                if (model.count(0) > 5 || next(20) == 0) {
                    due("begin", real.begin(), model.begin());
                }
                break;
            default:
                due("lay", real.lay(thing, drawer, depth), model.lay(thing, drawer, depth));
                break;
        }
        return 1;
    }

    /** Makes the step that is hinted for some drawer. */
    private int follow() {
        int drawer = anyDrawer();
        int hint = model.hint(drawer);
        due("hint", real.hint(drawer), hint);
        if (hint < 100) {
            return 1;
        }
        hinted++;
        int number = hint % 100;
        if (hint < 200) {
            due("open", real.open(number), model.open(number));
        } else if (hint < 300) {
            due("take", real.take(number), model.take(number));
        } else {
            due("lift", real.lift(number), model.lift(number));
        }
        Check.holds("run " + run + ": the hinted step was made", model.count(5) > 0);
        return 2;
    }

    private int play() {
        int drawer = anyDrawer();
        int thing = next(25) == 0 ? next(20) - 4 : next(12);
        switch (next(20)) {
            case 0:
            case 1: return giveUpSeldom();
            case 2:
            case 3:
            case 4:
            case 5: due("open", real.open(drawer), model.open(drawer)); break;
            case 6:
            case 7:
            case 8:
            case 9: due("close", real.close(drawer), model.close(drawer)); break;
            case 10:
            case 11: due("lift", real.lift(drawer), model.lift(drawer)); break;
            case 12:
            case 13:
            case 14:
            case 15: due("take", real.take(thing), model.take(thing)); break;
            default: due("seal", real.seal(drawer), model.seal(drawer)); break;
        }
        return 1;
    }

    private int giveUpSeldom() {
        if (next(20) == 0) {
            due("giveUp", real.giveUp(), model.giveUp());
        }
        return 1;
    }

    /** Compares a part of what is told. */
    private int tell() {
        int drawer = anyDrawer();
        switch (next(4)) {
            case 0: return tellCounts();
            case 1: return tellThing(next(25) == 0 ? next(20) - 4 : next(12));
            case 2: return tellDrawer(drawer);
            default: return tellNeeds(drawer);
        }
    }

    private int tellCounts() {
        for (int what = -1; what <= 11; what++) {
            due("count " + what, real.count(what), model.count(what));
        }
        Check.due("run " + run + ": minutes", real.minutes(), model.minutes());
        due("minutesBits", real.minutesBits(), model.minutesBits());
        if (model.count(1) == 1 && model.count(2) == model.count(0)) {
            ended++;
        }
        return 15;
    }

    private int tellThing(int thing) {
        for (int what = -1; what <= 4; what++) {
            due("thing " + thing + " what " + what, real.thing(thing, what), model.thing(thing, what));
        }
        return 6;
    }

    private int tellDrawer(int drawer) {
        for (int what = -1; what <= 11; what++) {
            due("drawer " + drawer + " what " + what, real.drawer(drawer, what), model.drawer(drawer, what));
        }
        return 13;
    }

    private int tellNeeds(int drawer) {
        for (int what = -1; what <= 5; what++) {
            due("needs " + drawer + " what " + what, real.needs(drawer, what), model.needs(drawer, what));
        }
        due("hint " + drawer, real.hint(drawer), model.hint(drawer));
        longest = Math.max(longest, model.needs(drawer, 0));
        if (model.needs(drawer, 0) > 5) {
            needed++;
        }
        return 8;
    }
}
