import java.util.ArrayDeque;
import java.util.ArrayList;
import java.util.Deque;
import java.util.HashSet;
import java.util.List;
import java.util.Map;
import java.util.Set;
import java.util.TreeMap;
import java.util.TreeSet;
import java.util.regex.Matcher;
import java.util.regex.Pattern;

/** The document written a second time: steps as words, needs by recursion, texts by a pattern. */
final class Model {
    private static final int UNKNOWN = -1;
    private static final int BAD_VALUE = -2;
    private static final int FULL = -3;
    private static final int NOT_POSSIBLE = -4;
    private static final int NONE = -5;

    private static final String DRAWER = "(c|1[0-5]|[0-9])(?:(h)|(s)|k([0-9])|l(1[0-5]|[0-9]))(?:\\*([1-3]))?";
    private static final Pattern ONE = Pattern.compile(DRAWER);
    private static final Pattern ALL = Pattern.compile(DRAWER + "(?:;" + DRAWER + ")*");

    private static final class Drawer {
        int outer;
        int hold;
        int by;
        int stiffness;
        int bottoms;
        int lifted;
        boolean open;
        boolean broken;
    }

    private static final class Thing {
        int drawer = NONE;
        int depth;
        boolean held;
    }

    private static final class World {
        final List<Drawer> drawers = new ArrayList<>();
        final List<Thing> things = new ArrayList<>();
        boolean game;
        int steps;
        double minutes;

        World copy() {
            World w = new World();
            for (Drawer d : drawers) {
                Drawer e = new Drawer();
                e.outer = d.outer;
                e.hold = d.hold;
                e.by = d.by;
                e.stiffness = d.stiffness;
                e.bottoms = d.bottoms;
                e.lifted = d.lifted;
                e.open = d.open;
                e.broken = d.broken;
                w.drawers.add(e);
            }
            for (Thing t : things) {
                Thing u = new Thing();
                u.drawer = t.drawer;
                u.depth = t.depth;
                u.held = t.held;
                w.things.add(u);
            }
            w.game = game;
            w.steps = steps;
            w.minutes = minutes;
            return w;
        }

        World atBeginning() {
            World w = copy();
            for (Drawer d : w.drawers) {
                d.open = false;
                d.broken = false;
                d.lifted = 0;
            }
            for (Thing t : w.things) {
                t.held = false;
            }
            w.game = false;
            w.steps = 0;
            w.minutes = 0.0;
            return w;
        }

        boolean has(int drawer) {
            return 0 <= drawer && drawer < drawers.size();
        }

        boolean reached(int drawer) {
            int outer = drawers.get(drawer).outer;
            return outer == NONE || (drawers.get(outer).open && reached(outer));
        }

        boolean canOpen(int drawer) {
            Drawer d = drawers.get(drawer);
            if (d.open || !reached(drawer)) {
                return false;
            }
            return d.hold == 0 || d.hold == 3
                || (d.hold == 1 && things.get(d.by).held)
                || (d.hold == 2 && has(d.by) && drawers.get(d.by).open);
        }

        boolean canLift(int drawer) {
            Drawer d = drawers.get(drawer);
            return d.open && reached(drawer) && d.lifted < d.bottoms && things.get(10).held;
        }

        boolean canTake(int thing) {
            Thing t = things.get(thing);
            if (t.held) {
                return false;
            }
            if (t.drawer == NONE) {
                return true;
            }
            Drawer d = drawers.get(t.drawer);
            return d.open && reached(t.drawer) && d.lifted >= t.depth;
        }

        /** What a step needs at once: "o3" opens drawer 3, "t5" takes thing 5, "l2.1" lifts bottom 1 of drawer 2. */
        Set<String> directNeeds(String step) {
            Set<String> needs = new TreeSet<>();
            int number = Integer.parseInt(step.substring(1).split("\\.")[0]);
            if (step.startsWith("o")) {
                Drawer d = drawers.get(number);
                addReach(needs, number);
                if (d.hold == 1 && !things.get(d.by).held) {
                    needs.add("t" + d.by);
                }
                if (d.hold == 2) {
                    if (!has(d.by)) {
                        needs.add("x0");
                    } else if (!drawers.get(d.by).open) {
                        needs.add("o" + d.by);
                    }
                }
            } else if (step.startsWith("l")) {
                int bottom = Integer.parseInt(step.split("\\.")[1]);
                addReachAndOpening(needs, number);
                if (!things.get(10).held) {
                    needs.add("t10");
                }
                addLiftings(needs, number, bottom - 1);
            } else if (step.startsWith("t")) {
                Thing t = things.get(number);
                if (t.drawer != NONE) {
                    addReachAndOpening(needs, t.drawer);
                    addLiftings(needs, t.drawer, t.depth);
                }
            }
            return needs;
        }

        void addReach(Set<String> needs, int drawer) {
            for (int o = drawers.get(drawer).outer; o != NONE; o = drawers.get(o).outer) {
                if (!drawers.get(o).open) {
                    needs.add("o" + o);
                }
            }
        }

        void addReachAndOpening(Set<String> needs, int drawer) {
            addReach(needs, drawer);
            if (!drawers.get(drawer).open) {
                needs.add("o" + drawer);
            }
        }

        void addLiftings(Set<String> needs, int drawer, int to) {
            for (int bottom = drawers.get(drawer).lifted + 1; bottom <= to; bottom++) {
                needs.add("l" + drawer + "." + bottom);
            }
        }

        /** Gathers a step and all that it needs; answers false if the step is not possible. */
        boolean gather(String step, Set<String> found, Set<String> underWay) {
            if (step.equals("x0") || underWay.contains(step)) {
                return false;
            }
            if (!found.add(step)) {
                return true;
            }
            underWay.add(step);
            for (String need : directNeeds(step)) {
                if (!gather(need, found, underWay)) {
                    return false;
                }
            }
            underWay.remove(step);
            return true;
        }

        /** The steps of an opening, or null if it is not possible. */
        Set<String> stepsOf(int drawer) {
            Set<String> first = new TreeSet<>();
            addReachAndOpening(first, drawer);
            Set<String> found = new TreeSet<>();
            for (String step : first) {
                if (!gather(step, found, new HashSet<>())) {
                    return null;
                }
            }
            return found;
        }
    }

    private World now = new World();
    private World kept = null;
    private String text = "";
    private final Deque<World> past = new ArrayDeque<>();

    Model() {
        for (int i = 0; i < 12; i++) {
            now.things.add(new Thing());
        }
    }

    private void act() {
        past.addLast(now.copy());
        if (past.size() > 4) {
            past.removeFirst();
        }
    }

    private void add(int outer, int hold, int by, int stiffness, int bottoms) {
        Drawer d = new Drawer();
        d.outer = outer;
        d.hold = hold;
        d.by = hold == 1 || hold == 2 ? by : NONE;
        d.stiffness = stiffness;
        d.bottoms = bottoms;
        now.drawers.add(d);
    }

    int build(int outer, int hold, int by, int stiffness) {
        if (outer != NONE && !now.has(outer)) {
            return UNKNOWN;
        }
        boolean badBy = (hold == 1 && (by < 0 || by > 9)) || (hold == 2 && (by < 0 || by > 15));
        if (hold < 0 || hold > 3 || badBy || stiffness < 0 || stiffness > 9) {
            return BAD_VALUE;
        }
        if (now.drawers.size() == 16) {
            return FULL;
        }
        if (now.game) {
            return NOT_POSSIBLE;
        }
        act();
        add(outer, hold, by, stiffness, 0);
        return now.drawers.size() - 1;
    }

    int buildAll() {
        if (!ALL.matcher(text).matches()) {
            int fault = 0;
            while (fault < text.length() && canGoOn(text.substring(0, fault + 1))) {
                fault++;
            }
            return -100 - fault;
        }
        String[] parts = text.split(";");
        int number = now.drawers.size();
        for (String part : parts) {
            Matcher m = ONE.matcher(part);
            m.matches();
            if (!m.group(1).equals("c") && Integer.parseInt(m.group(1)) >= number) {
                return UNKNOWN;
            }
            number++;
        }
        if (number > 16) {
            return FULL;
        }
        if (now.game) {
            return NOT_POSSIBLE;
        }
        act();
        for (String part : parts) {
            Matcher m = ONE.matcher(part);
            m.matches();
            int outer = m.group(1).equals("c") ? NONE : Integer.parseInt(m.group(1));
            int hold = m.group(2) != null ? 0 : m.group(3) != null ? 3 : m.group(4) != null ? 1 : 2;
            int by = hold == 1 ? Integer.parseInt(m.group(4)) : hold == 2 ? Integer.parseInt(m.group(5)) : NONE;
            add(outer, hold, by, 0, m.group(6) == null ? 0 : Integer.parseInt(m.group(6)));
        }
        return parts.length;
    }

    private static boolean canGoOn(String beginning) {
        Matcher m = ALL.matcher(beginning);
        return m.matches() || m.hitEnd();
    }

    int setBottoms(int drawer, int bottoms) {
        if (!now.has(drawer)) {
            return UNKNOWN;
        }
        if (bottoms < 0 || bottoms > 3) {
            return BAD_VALUE;
        }
        if (now.game) {
            return NOT_POSSIBLE;
        }
        int previous = now.drawers.get(drawer).bottoms;
        if (previous == bottoms) {
            return NONE;
        }
        act();
        now.drawers.get(drawer).bottoms = bottoms;
        for (Thing t : now.things) {
            if (t.drawer == drawer) {
                t.depth = Math.min(t.depth, bottoms);
            }
        }
        return previous;
    }

    int lay(int thing, int drawer, int depth) {
        if (thing < 0 || thing > 11 || (drawer != NONE && !now.has(drawer))) {
            return UNKNOWN;
        }
        if (depth < 0 || depth > (drawer == NONE ? 0 : now.drawers.get(drawer).bottoms)) {
            return BAD_VALUE;
        }
        if (now.game) {
            return NOT_POSSIBLE;
        }
        Thing t = now.things.get(thing);
        if (t.drawer == drawer && t.depth == depth) {
            return NONE;
        }
        act();
        t.drawer = drawer;
        t.depth = depth;
        return (int) now.things.stream().filter(u -> u.drawer != NONE).count();
    }

    int begin() {
        boolean noHolder = now.drawers.stream().anyMatch(d -> d.hold == 2 && !now.has(d.by));
        if (now.game || now.drawers.isEmpty() || noHolder) {
            return NOT_POSSIBLE;
        }
        act();
        now.game = true;
        return now.drawers.size();
    }

    int giveUp() {
        if (!now.game) {
            return NOT_POSSIBLE;
        }
        act();
        int steps = now.steps;
        now = now.atBeginning();
        return steps;
    }

    private int openDrawers() {
        return (int) now.drawers.stream().filter(d -> d.open).count();
    }

    private int brokenSeals() {
        return (int) now.drawers.stream().filter(d -> d.broken).count();
    }

    private void step(double minutes) {
        now.steps++;
        now.minutes += minutes;
    }

    int open(int drawer) {
        if (!now.has(drawer)) {
            return UNKNOWN;
        }
        if (!now.game || (!now.drawers.get(drawer).open && !now.canOpen(drawer))) {
            return NOT_POSSIBLE;
        }
        if (now.drawers.get(drawer).open) {
            return NONE;
        }
        act();
        Drawer d = now.drawers.get(drawer);
        d.open = true;
        d.broken = d.hold == 3;
        step(1.0 + (double) d.stiffness / 4.0);
        return openDrawers();
    }

    int close(int drawer) {
        if (!now.has(drawer)) {
            return UNKNOWN;
        }
        if (!now.game || (now.drawers.get(drawer).open && !now.reached(drawer))) {
            return NOT_POSSIBLE;
        }
        if (!now.drawers.get(drawer).open) {
            return NONE;
        }
        act();
        Drawer d = now.drawers.get(drawer);
        d.open = false;
        step(1.0 + (double) d.stiffness / 4.0);
        return openDrawers();
    }

    int lift(int drawer) {
        if (!now.has(drawer)) {
            return UNKNOWN;
        }
        Drawer d = now.drawers.get(drawer);
        if (!now.game || (d.lifted < d.bottoms && !now.canLift(drawer))) {
            return NOT_POSSIBLE;
        }
        if (d.lifted == d.bottoms) {
            return NONE;
        }
        act();
        step(2.5);
        return ++d.lifted;
    }

    int take(int thing) {
        if (thing < 0 || thing > 11) {
            return UNKNOWN;
        }
        Thing t = now.things.get(thing);
        if (!now.game || (!t.held && !now.canTake(thing))) {
            return NOT_POSSIBLE;
        }
        if (t.held) {
            return NONE;
        }
        act();
        t.held = true;
        step(0.25);
        return (int) now.things.stream().filter(u -> u.held).count();
    }

    int seal(int drawer) {
        if (!now.has(drawer)) {
            return UNKNOWN;
        }
        Drawer d = now.drawers.get(drawer);
        boolean can = !d.open && now.reached(drawer) && now.things.get(11).held;
        if (!now.game || (d.broken && !can)) {
            return NOT_POSSIBLE;
        }
        if (!d.broken) {
            return NONE;
        }
        act();
        d.broken = false;
        step(3.0);
        return brokenSeals();
    }

    int type(char character) {
        if (text.length() == 60) {
            return FULL;
        }
        text = text + character;
        return text.length();
    }

    int clearText() {
        int length = text.length();
        text = "";
        return length;
    }

    int undo() {
        if (past.isEmpty()) {
            return NONE;
        }
        now = past.removeLast();
        return past.size();
    }

    int keep() {
        kept = now.copy();
        return now.drawers.size();
    }

    int restore() {
        if (kept == null) {
            return NONE;
        }
        act();
        now = kept.copy();
        return now.drawers.size();
    }

    int drawer(int drawer, int what) {
        if (!now.has(drawer)) {
            return UNKNOWN;
        }
        Drawer d = now.drawers.get(drawer);
        int deep = 0;
        for (int o = d.outer; o != NONE; o = now.drawers.get(o).outer) {
            deep++;
        }
        int things = (int) now.things.stream().filter(t -> t.drawer == drawer && !t.held).count();
        int[] answers = {
            d.outer, d.hold, d.by, d.stiffness, d.bottoms, d.lifted, d.open ? 1 : 0, d.broken ? 1 : 0,
            now.reached(drawer) ? 1 : 0, things, deep,
        };
        return what < 0 || what >= answers.length ? BAD_VALUE : answers[what];
    }

    int thing(int thing, int what) {
        if (thing < 0 || thing > 11) {
            return UNKNOWN;
        }
        Thing t = now.things.get(thing);
        int[] answers = {
            t.held ? NONE : t.drawer, t.held ? 0 : t.depth, t.held ? 1 : 0, now.game && now.canTake(thing) ? 1 : 0,
        };
        return what < 0 || what >= answers.length ? BAD_VALUE : answers[what];
    }

    private static int set(Set<String> steps, String kind) {
        return steps.stream().filter(s -> s.startsWith(kind))
            .mapToInt(s -> 1 << Integer.parseInt(s.substring(1))).sum();
    }

    int needs(int drawer, int what) {
        if (!now.has(drawer)) {
            return UNKNOWN;
        }
        if (what < 0 || what > 4) {
            return BAD_VALUE;
        }
        Set<String> steps = now.stepsOf(drawer);
        if (steps == null) {
            return NOT_POSSIBLE;
        }
        if (what == 0) {
            return steps.size();
        }
        if (what == 1 || what == 2) {
            return set(steps, what == 1 ? "o" : "t");
        }
        if (what == 3) {
            return (int) steps.stream().filter(s -> s.startsWith("l")).count();
        }
        int seals = 0;
        for (int i = 0; i < now.drawers.size(); i++) {
            Drawer d = now.drawers.get(i);
            seals += d.hold == 3 && !d.broken && steps.contains("o" + i) ? 1 : 0;
        }
        return seals;
    }

    int hint(int drawer) {
        if (!now.has(drawer)) {
            return UNKNOWN;
        }
        Set<String> steps = now.stepsOf(drawer);
        if (!now.game || steps == null) {
            return NOT_POSSIBLE;
        }
        Map<Integer, String> ready = new TreeMap<>();
        for (String step : steps) {
            if (now.directNeeds(step).isEmpty()) {
                int number = Integer.parseInt(step.substring(1).split("\\.")[0]);
                ready.put((step.startsWith("o") ? 100 : step.startsWith("t") ? 200 : 300) + number, step);
            }
        }
        return steps.isEmpty() ? NONE : ready.keySet().iterator().next();
    }

    double minutes() {
        return now.game ? now.minutes : -1.0;
    }

    int minutesBits() {
        return now.game ? Float.floatToIntBits((float) now.minutes) : 0;
    }

    int count(int what) {
        if (what < 0 || what > 10) {
            return BAD_VALUE;
        }
        int never = 0;
        int openable = 0;
        World beginning = now.atBeginning();
        for (int i = 0; i < now.drawers.size(); i++) {
            never |= beginning.stepsOf(i) == null ? 1 << i : 0;
            openable |= now.game && now.canOpen(i) ? 1 << i : 0;
        }
        int held = 0;
        for (int i = 0; i < 12; i++) {
            held |= now.things.get(i).held ? 1 << i : 0;
        }
        int[] answers = {
            now.drawers.size(), now.game ? 1 : 0, openDrawers(), held, brokenSeals(), now.steps,
            never == 0 ? 1 : 0, never, openable, past.size(), text.length(),
        };
        return answers[what];
    }
}
