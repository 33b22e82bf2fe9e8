/**
 * A cabinet to escape from: drawers with handles, locks, levers and seals, false bottoms,
 * and things that are taken to open what is left. The promises stand in DOC.md.
 */
public final class DrawerCabinet {
    public static final int UNKNOWN = -1;
    public static final int BAD_VALUE = -2;
    public static final int FULL = -3;
    public static final int NOT_POSSIBLE = -4;
    public static final int NONE = -5;

    private static final int DRAWERS = 16;
    private static final int MOST_STIFFNESS = 9;
    private static final int MOST_BOTTOMS = 3;

    private static final int HANDLE = 0;
    private static final int LOCK = 1;
    private static final int LEVER = 2;
    private static final int SEAL = 3;

    private static final int THINGS = 12;
    private static final int KEYS = 10;
    private static final int KNIFE = 10;
    private static final int STAMP = 11;

    /** The minutes of every step are whole quarters, so that they are counted without rounding. */
    private static final int MOVING_QUARTERS = 4;
    private static final int LIFTING_QUARTERS = 10;
    private static final int TAKING_QUARTERS = 1;
    private static final int SEALING_QUARTERS = 12;

    /** Every drawer opened, every thing taken, every bottom lifted. */
    private static final int MOST_STEPS = DRAWERS + THINGS + DRAWERS * MOST_BOTTOMS;

    private static final int MOST_SIGNS = 60;
    /** The shortest drawer of a text has two signs and a ";" behind it. */
    private static final int MOST_READ = MOST_SIGNS / 3 + 1;
    private static final int NO_FAULT = -1;
    private static final int NO_NUMBER = -1;
    private static final int FAULTS_FROM = -100;

    private static final int OPENING_HINT = 100;
    private static final int TAKING_HINT = 200;
    private static final int LIFTING_HINT = 300;

    private static final int MOST_PAST = 4;

    private final State now = new State();
    private final State snapshot = new State();
    /** A copy of the state in which is tried what can be opened. */
    private final State trial = new State();
    /** The states of the history, the oldest first; only the first ones, as many as past tells, count. */
    private final State[] history = new State[MOST_PAST];
    private final Plan plan = new Plan();
    private final DrawerText text = new DrawerText();
    private int past;
    private boolean kept;

    public DrawerCabinet() {
        for (int i = 0; i < MOST_PAST; i++) {
            history[i] = new State();
        }
        past = 0;
        kept = false;
    }

    // ---- building

    public int build(int outer, int hold, int by, int stiffness) {
        if (outer != NONE && !now.isThere(outer)) {
            return UNKNOWN;
        }
        if (!isHold(hold, by) || stiffness < 0 || stiffness > MOST_STIFFNESS) {
            return BAD_VALUE;
        }
        if (now.drawers >= DRAWERS) {
            return FULL;
        }
        if (now.game) {
            return NOT_POSSIBLE;
        }
        recordState();
        now.addDrawer(outer, hold, by, stiffness, 0);
        return now.drawers - 1;
    }

    public int buildAll() {
        int fault = text.readAll();
        if (fault != NO_FAULT) {
            return FAULTS_FROM - fault;
        }
        if (!text.fitsBehind(now.drawers)) {
            return UNKNOWN;
        }
        if (now.drawers + text.found > DRAWERS) {
            return FULL;
        }
        if (now.game) {
            return NOT_POSSIBLE;
        }
        recordState();
        for (int i = 0; i < text.found; i++) {
            now.addDrawer(text.outer[i], text.hold[i], text.by[i], 0, text.bottoms[i]);
        }
        return text.found;
    }

    public int setBottoms(int drawer, int bottoms) {
        if (!now.isThere(drawer)) {
            return UNKNOWN;
        }
        if (bottoms < 0 || bottoms > MOST_BOTTOMS) {
            return BAD_VALUE;
        }
        if (now.game) {
            return NOT_POSSIBLE;
        }
        int previous = now.bottoms[drawer];
        if (previous == bottoms) {
            return NONE;
        }
        recordState();
        now.changeBottoms(drawer, bottoms);
        return previous;
    }

    public int lay(int thing, int drawer, int depth) {
        if (!isThing(thing) || (drawer != NONE && !now.isThere(drawer))) {
            return UNKNOWN;
        }
        int deepest = drawer == NONE ? 0 : now.bottoms[drawer];
        if (depth < 0 || depth > deepest) {
            return BAD_VALUE;
        }
        if (now.game) {
            return NOT_POSSIBLE;
        }
        if (now.place[thing] == drawer && now.depth[thing] == depth) {
            return NONE;
        }
        recordState();
        now.place[thing] = drawer;
        now.depth[thing] = depth;
        return now.countThingsInDrawers();
    }

    // ---- the game

    public int begin() {
        if (now.game || now.drawers == 0 || !now.hasAllHolders()) {
            return NOT_POSSIBLE;
        }
        recordState();
        now.putBack();
        now.game = true;
        return now.drawers;
    }

    public int giveUp() {
        if (!now.game) {
            return NOT_POSSIBLE;
        }
        int steps = now.steps;
        recordState();
        now.putBack();
        return steps;
    }

    public int open(int drawer) {
        if (!now.isThere(drawer)) {
            return UNKNOWN;
        }
        if (!now.game) {
            return NOT_POSSIBLE;
        }
        if (now.isOpen(drawer)) {
            return NONE;
        }
        if (!now.canOpen(drawer)) {
            return NOT_POSSIBLE;
        }
        recordState();
        now.setOpen(drawer);
        now.addStep(MOVING_QUARTERS + now.stiffness[drawer]);
        return Integer.bitCount(now.opened);
    }

    public int close(int drawer) {
        if (!now.isThere(drawer)) {
            return UNKNOWN;
        }
        if (!now.game) {
            return NOT_POSSIBLE;
        }
        if (!now.isOpen(drawer)) {
            return NONE;
        }
        if (!now.isReached(drawer)) {
            return NOT_POSSIBLE;
        }
        recordState();
        now.opened &= ~bit(drawer);
        now.addStep(MOVING_QUARTERS + now.stiffness[drawer]);
        return Integer.bitCount(now.opened);
    }

    public int lift(int drawer) {
        if (!now.isThere(drawer)) {
            return UNKNOWN;
        }
        if (!now.game) {
            return NOT_POSSIBLE;
        }
        if (!now.hasBottomLeft(drawer)) {
            return NONE;
        }
        if (!now.canLift(drawer)) {
            return NOT_POSSIBLE;
        }
        recordState();
        now.lifted[drawer]++;
        now.addStep(LIFTING_QUARTERS);
        return now.lifted[drawer];
    }

    public int take(int thing) {
        if (!isThing(thing)) {
            return UNKNOWN;
        }
        if (!now.game) {
            return NOT_POSSIBLE;
        }
        if (now.isInHand(thing)) {
            return NONE;
        }
        if (!now.canTake(thing)) {
            return NOT_POSSIBLE;
        }
        recordState();
        now.inHand |= bit(thing);
        now.addStep(TAKING_QUARTERS);
        return Integer.bitCount(now.inHand);
    }

    public int seal(int drawer) {
        if (!now.isThere(drawer)) {
            return UNKNOWN;
        }
        if (!now.game) {
            return NOT_POSSIBLE;
        }
        if (!isIn(now.broken, drawer)) {
            return NONE;
        }
        if (!now.canSeal(drawer)) {
            return NOT_POSSIBLE;
        }
        recordState();
        now.broken &= ~bit(drawer);
        now.addStep(SEALING_QUARTERS);
        return Integer.bitCount(now.broken);
    }

    // ---- texts

    public int type(char character) {
        return text.append(character) ? text.length : FULL;
    }

    public int clearText() {
        int length = text.length;
        text.length = 0;
        return length;
    }

    // ---- history

    public int undo() {
        if (past <= 0) {
            return NONE;
        }
        past--;
        copyState(history[past], now);
        return past;
    }

    public int keep() {
        copyState(now, snapshot);
        kept = true;
        return now.drawers;
    }

    public int restore() {
        if (!kept) {
            return NONE;
        }
        recordState();
        copyState(snapshot, now);
        return now.drawers;
    }

    // ---- what is told

    public int drawer(int drawer, int what) {
        if (!now.isThere(drawer)) {
            return UNKNOWN;
        }
        switch (what) {
            case 0: return now.outer[drawer];
            case 1: return now.hold[drawer];
            case 2: return now.by[drawer];
            case 3: return now.stiffness[drawer];
            case 4: return now.bottoms[drawer];
            case 5: return now.lifted[drawer];
            case 6: return oneIf(now.isOpen(drawer));
            case 7: return oneIf(isIn(now.broken, drawer));
            case 8: return oneIf(now.isReached(drawer));
            case 9: return now.countThingsIn(drawer);
            case 10: return now.countOuters(drawer);
            default: return BAD_VALUE;
        }
    }

    public int thing(int thing, int what) {
        if (!isThing(thing)) {
            return UNKNOWN;
        }
        boolean held = now.isInHand(thing);
        switch (what) {
            case 0: return held ? NONE : now.place[thing];
            case 1: return held ? 0 : now.depth[thing];
            case 2: return oneIf(held);
            case 3: return oneIf(now.game && now.canTake(thing));
            default: return BAD_VALUE;
        }
    }

    public int needs(int drawer, int what) {
        if (!now.isThere(drawer)) {
            return UNKNOWN;
        }
        if (what < 0 || what > 4) {
            return BAD_VALUE;
        }
        if (!canComeTo(drawer)) {
            return NOT_POSSIBLE;
        }
        plan.make(now, drawer);
        switch (what) {
            case 0: return plan.countSteps(now);
            case 1: return plan.openings;
            case 2: return plan.takings;
            case 3: return plan.countLiftings(now);
            default: return now.countWholeSeals(plan.openings);
        }
    }

    public int hint(int drawer) {
        if (!now.isThere(drawer)) {
            return UNKNOWN;
        }
        if (!now.game || !canComeTo(drawer)) {
            return NOT_POSSIBLE;
        }
        plan.make(now, drawer);
        return plan.firstStep(now);
    }

    public double minutes() {
        return now.game ? (double) now.quarters / 4.0 : -1.0;
    }

    public int minutesBits() {
        return now.game ? bitsOf((float) minutes()) : 0;
    }

    public int count(int what) {
        switch (what) {
            case 0: return now.drawers;
            case 1: return oneIf(now.game);
            case 2: return Integer.bitCount(now.opened);
            case 3: return now.inHand;
            case 4: return Integer.bitCount(now.broken);
            case 5: return now.steps;
            case 6: return oneIf(neverOpened() == 0);
            case 7: return neverOpened();
            case 8: return now.game ? now.openableNow() : 0;
            case 9: return past;
            case 10: return text.length;
            default: return BAD_VALUE;
        }
    }

    // ---- inside

    private static boolean isHold(int hold, int by) {
        switch (hold) {
            case HANDLE:
            case SEAL: return true;
            case LOCK: return by >= 0 && by < KEYS;
            case LEVER: return by >= 0 && by < DRAWERS;
            default: return false;
        }
    }

    private static boolean isThing(int thing) {
        return thing >= 0 && thing < THINGS;
    }

    private static int oneIf(boolean holds) {
        return holds ? 1 : 0;
    }

    private static int bit(int number) {
        return 1 << number;
    }

    private static boolean isIn(int set, int number) {
        return (set & (1 << number)) != 0;
    }

    /** Makes the bits of a float that is 0 or a normal one above it, since no library for that is allowed. */
    private static int bitsOf(float value) {
        if (value <= 0.0f) {
            return 0;
        }
        int exponent = 127;
        float rest = value;
        for (int i = 0; i < 128 && rest >= 2.0f; i++) {
            rest /= 2.0f;
            exponent++;
        }
        for (int i = 0; i < 128 && rest < 1.0f; i++) {
            rest *= 2.0f;
            exponent--;
        }
        int fraction = (int) ((rest - 1.0f) * 8388608.0f);
        return (exponent << 23) | fraction;
    }

    private void recordState() {
        if (past >= MOST_PAST) {
            dropOldest();
        }
        copyState(now, history[past]);
        past++;
    }

    /** The dropped state's object goes behind the others, to be used again. */
    private void dropOldest() {
        State oldest = history[0];
        for (int i = 1; i < MOST_PAST; i++) {
            history[i - 1] = history[i];
        }
        history[MOST_PAST - 1] = oldest;
        past = MOST_PAST - 1;
    }

    private static void copyState(State from, State to) {
        if (from != null && to != null) {
            to.copyFrom(from);
        }
    }

    /** Whether the drawer could be open and reached at last, as things stand. */
    private boolean canComeTo(int drawer) {
        copyState(now, trial);
        trial.makeAllSteps();
        return trial.isOpen(drawer) && trial.isReached(drawer);
    }

    private int neverOpened() {
        copyState(now, trial);
        trial.putBack();
        trial.makeAllSteps();
        return (bit(trial.drawers) - 1) & ~trial.opened;
    }

    /** All that undo and restore bring back. Without a game nothing is open, broken, lifted or in hand. */
    private static final class State {
        int drawers;
        boolean game;
        int steps;
        int quarters;

        /** Sets of drawers or things, as bits. */
        int opened;
        int broken;
        int inHand;

        final int[] outer = new int[DRAWERS];
        final int[] hold = new int[DRAWERS];
        final int[] by = new int[DRAWERS];
        final int[] stiffness = new int[DRAWERS];
        final int[] bottoms = new int[DRAWERS];
        final int[] lifted = new int[DRAWERS];

        /** Where each thing was laid; this stays while the thing is in hand. */
        final int[] place = new int[THINGS];
        final int[] depth = new int[THINGS];

        State() {
            for (int thing = 0; thing < THINGS; thing++) {
                place[thing] = NONE;
            }
        }

        void copyFrom(State other) {
            drawers = other.drawers;
            game = other.game;
            steps = other.steps;
            quarters = other.quarters;
            opened = other.opened;
            broken = other.broken;
            inHand = other.inHand;
            System.arraycopy(other.outer, 0, outer, 0, DRAWERS);
            System.arraycopy(other.hold, 0, hold, 0, DRAWERS);
            System.arraycopy(other.by, 0, by, 0, DRAWERS);
            System.arraycopy(other.stiffness, 0, stiffness, 0, DRAWERS);
            System.arraycopy(other.bottoms, 0, bottoms, 0, DRAWERS);
            System.arraycopy(other.lifted, 0, lifted, 0, DRAWERS);
            System.arraycopy(other.place, 0, place, 0, THINGS);
            System.arraycopy(other.depth, 0, depth, 0, THINGS);
        }

        void addDrawer(int itsOuter, int itsHold, int itsBy, int itsStiffness, int itsBottoms) {
            if (drawers < DRAWERS) {
                outer[drawers] = itsOuter;
                hold[drawers] = itsHold;
                by[drawers] = itsHold == LOCK || itsHold == LEVER ? itsBy : NONE;
                stiffness[drawers] = itsStiffness;
                bottoms[drawers] = itsBottoms;
                lifted[drawers] = 0;
                drawers++;
            }
        }

        void changeBottoms(int drawer, int most) {
            bottoms[drawer] = most;
            for (int thing = 0; thing < THINGS; thing++) {
                if (place[thing] == drawer && depth[thing] > most) {
                    depth[thing] = most;
                }
            }
        }

        /** Ends a game, if there is one, and leaves all as it was laid. */
        void putBack() {
            game = false;
            steps = 0;
            quarters = 0;
            opened = 0;
            broken = 0;
            inHand = 0;
            for (int drawer = 0; drawer < DRAWERS; drawer++) {
                lifted[drawer] = 0;
            }
        }

        boolean isThere(int drawer) {
            return drawer >= 0 && drawer < drawers;
        }

        boolean isOpen(int drawer) {
            return (opened & (1 << drawer)) != 0;
        }

        boolean isInHand(int thing) {
            return (inHand & (1 << thing)) != 0;
        }

        boolean isReached(int drawer) {
            int around = outer[drawer];
            for (int level = 0; level < DRAWERS && isThere(around); level++) {
                if (!isOpen(around)) {
                    return false;
                }
                around = outer[around];
            }
            return true;
        }

        boolean canOpen(int drawer) {
            return !isOpen(drawer) && isReached(drawer) && isLetByHold(drawer);
        }

        private boolean isLetByHold(int drawer) {
            switch (hold[drawer]) {
                case LOCK: return isInHand(by[drawer]);
                case LEVER: return isOpen(by[drawer]);
                default: return true;
            }
        }

        boolean hasBottomLeft(int drawer) {
            return lifted[drawer] < bottoms[drawer];
        }

        boolean canLift(int drawer) {
            return hasBottomLeft(drawer) && isOpen(drawer) && isReached(drawer) && isInHand(KNIFE);
        }

        boolean canTake(int thing) {
            if (isInHand(thing)) {
                return false;
            }
            int around = place[thing];
            if (!isThere(around)) {
                return true;
            }
            return isOpen(around) && isReached(around) && lifted[around] >= depth[thing];
        }

        boolean canSeal(int drawer) {
            return isIn(broken, drawer) && !isOpen(drawer) && isReached(drawer) && isInHand(STAMP);
        }

        void setOpen(int drawer) {
            opened |= bit(drawer);
            if (hold[drawer] == SEAL) {
                broken |= bit(drawer);
            }
        }

        void addStep(int itsQuarters) {
            steps++;
            quarters += itsQuarters;
        }

        /** No step hinders another one, so that whatever is possible is done in the end. */
        void makeAllSteps() {
            boolean made = true;
            for (int round = 0; round <= MOST_STEPS && made; round++) {
                made = makeSteps();
            }
        }

        private boolean makeSteps() {
            boolean made = false;
            for (int drawer = 0; drawer < drawers; drawer++) {
                if (canOpen(drawer)) {
                    setOpen(drawer);
                    made = true;
                }
                if (canLift(drawer)) {
                    lifted[drawer]++;
                    made = true;
                }
            }
            for (int thing = 0; thing < THINGS; thing++) {
                if (canTake(thing)) {
                    inHand |= bit(thing);
                    made = true;
                }
            }
            return made;
        }

        boolean hasAllHolders() {
            for (int drawer = 0; drawer < drawers; drawer++) {
                if (hold[drawer] == LEVER && !isThere(by[drawer])) {
                    return false;
                }
            }
            return true;
        }

        int openableNow() {
            int set = 0;
            for (int drawer = 0; drawer < drawers; drawer++) {
                if (canOpen(drawer)) {
                    set |= bit(drawer);
                }
            }
            return set;
        }

        int countWholeSeals(int set) {
            int whole = 0;
            for (int drawer = 0; drawer < drawers; drawer++) {
                if (isIn(set, drawer) && hold[drawer] == SEAL && !isIn(broken, drawer)) {
                    whole++;
                }
            }
            return whole;
        }

        int countThingsInDrawers() {
            int things = 0;
            for (int thing = 0; thing < THINGS; thing++) {
                if (isThere(place[thing])) {
                    things++;
                }
            }
            return things;
        }

        int countThingsIn(int drawer) {
            int things = 0;
            for (int thing = 0; thing < THINGS; thing++) {
                if (place[thing] == drawer && !isInHand(thing)) {
                    things++;
                }
            }
            return things;
        }

        int countOuters(int drawer) {
            int around = outer[drawer];
            int outers = 0;
            while (outers < DRAWERS && isThere(around)) {
                outers++;
                around = outer[around];
            }
            return outers;
        }
    }

    /** The steps that it takes to have a drawer open and reached, which has to be possible. */
    private static final class Plan {
        /** Sets of drawers and of things, as bits. */
        int openings;
        int takings;

        /** Down to which depth the bottoms of each drawer have to be lifted. */
        private final int[] liftedTo = new int[DRAWERS];

        void make(State state, int drawer) {
            openings = 0;
            takings = 0;
            for (int i = 0; i < DRAWERS; i++) {
                liftedTo[i] = 0;
            }
            addWayInto(state, drawer);
            int before = 0;
            for (int round = 0; round <= MOST_STEPS && countSteps(state) > before; round++) {
                before = countSteps(state);
                addNeedsOfAll(state);
            }
        }

        int countSteps(State state) {
            return Integer.bitCount(openings) + Integer.bitCount(takings) + countLiftings(state);
        }

        int countLiftings(State state) {
            int liftings = 0;
            for (int drawer = 0; drawer < DRAWERS; drawer++) {
                liftings += Math.max(0, liftedTo[drawer] - state.lifted[drawer]);
            }
            return liftings;
        }

        /** The first step that can be made now, told as a hint. */
        int firstStep(State state) {
            int ready = openings & state.openableNow();
            for (int drawer = 0; drawer < DRAWERS; drawer++) {
                if (isIn(ready, drawer)) {
                    return OPENING_HINT + drawer;
                }
            }
            for (int thing = 0; thing < THINGS; thing++) {
                if (isIn(takings, thing) && state.canTake(thing)) {
                    return TAKING_HINT + thing;
                }
            }
            for (int drawer = 0; drawer < DRAWERS; drawer++) {
                if (isLiftingIn(state, drawer) && state.canLift(drawer)) {
                    return LIFTING_HINT + drawer;
                }
            }
            return NONE;
        }

        private boolean isLiftingIn(State state, int drawer) {
            return liftedTo[drawer] > state.lifted[drawer];
        }

        private void addNeedsOfAll(State state) {
            for (int drawer = 0; drawer < DRAWERS; drawer++) {
                if (isIn(openings, drawer)) {
                    addNeedsOfOpening(state, drawer);
                }
                if (isLiftingIn(state, drawer)) {
                    addWayInto(state, drawer);
                    addTaking(state, KNIFE);
                }
            }
            for (int thing = 0; thing < THINGS; thing++) {
                if (isIn(takings, thing)) {
                    addNeedsOfTaking(state, thing);
                }
            }
        }

        /** The opening of a drawer, and of all in which it lies, if they are closed. */
        private void addWayInto(State state, int drawer) {
            int around = drawer;
            for (int level = 0; level <= DRAWERS && state.isThere(around); level++) {
                addOpening(state, around);
                around = state.outer[around];
            }
        }

        private void addNeedsOfOpening(State state, int drawer) {
            addWayInto(state, drawer);
            if (state.hold[drawer] == LOCK) {
                addTaking(state, state.by[drawer]);
            }
            if (state.hold[drawer] == LEVER) {
                addOpening(state, state.by[drawer]);
            }
        }

        private void addNeedsOfTaking(State state, int thing) {
            int around = state.place[thing];
            if (state.isThere(around)) {
                addWayInto(state, around);
                liftedTo[around] = Math.max(liftedTo[around], state.depth[thing]);
            }
        }

        private void addOpening(State state, int drawer) {
            if (!state.isOpen(drawer)) {
                openings |= bit(drawer);
            }
        }

        private void addTaking(State state, int thing) {
            if (!state.isInHand(thing)) {
                takings |= bit(thing);
            }
        }
    }

    /** The text that is typed, and the drawers that were read from it. */
    private static final class DrawerText {
        private final char[] signs = new char[MOST_SIGNS];
        int length;

        /** Where the reading stands; on a fault, its place. */
        private int at;

        int found;
        final int[] outer = new int[MOST_READ];
        final int[] hold = new int[MOST_READ];
        final int[] by = new int[MOST_READ];
        final int[] bottoms = new int[MOST_READ];

        boolean append(char sign) {
            if (length >= MOST_SIGNS) {
                return false;
            }
            signs[length] = sign;
            length++;
            return true;
        }

        /** Reads the drawers of the text; answers its fault, or NO_FAULT. */
        int readAll() {
            at = 0;
            found = 0;
            boolean allowed = readDrawer();
            for (int i = 0; i < MOST_SIGNS && allowed && at < length; i++) {
                allowed = readSign(';') && readDrawer();
            }
            return allowed ? NO_FAULT : at;
        }

        /** Whether each outer drawer is less than its drawer, if so many drawers are there before. */
        boolean fitsBehind(int drawers) {
            for (int i = 0; i < found; i++) {
                if (outer[i] >= drawers + i) {
                    return false;
                }
            }
            return true;
        }

        private boolean readDrawer() {
            if (found >= MOST_READ || !readOuter() || !readHold() || !readBottoms()) {
                return false;
            }
            found++;
            return true;
        }

        private boolean readOuter() {
            if (readSign('c')) {
                outer[found] = NONE;
                return true;
            }
            outer[found] = readNumber();
            return outer[found] != NO_NUMBER;
        }

        private boolean readHold() {
            if (readSign('h')) {
                hold[found] = HANDLE;
                return true;
            }
            if (readSign('s')) {
                hold[found] = SEAL;
                return true;
            }
            if (readSign('k')) {
                hold[found] = LOCK;
                by[found] = readDigit(0, KEYS - 1);
                return by[found] != NO_NUMBER;
            }
            if (readSign('l')) {
                hold[found] = LEVER;
                by[found] = readNumber();
                return by[found] != NO_NUMBER;
            }
            return false;
        }

        private boolean readBottoms() {
            bottoms[found] = 0;
            if (!readSign('*')) {
                return true;
            }
            bottoms[found] = readDigit(1, MOST_BOTTOMS);
            return bottoms[found] != NO_NUMBER;
        }

        private boolean readSign(char sign) {
            if (at >= length || signs[at] != sign) {
                return false;
            }
            at++;
            return true;
        }

        /** Reads a number from 0 to 15. */
        private int readNumber() {
            int first = readDigit(0, 9);
            if (first != 1) {
                return first;
            }
            int second = readDigit(0, DRAWERS - 1 - 10);
            return second == NO_NUMBER ? first : 10 + second;
        }

        private int readDigit(int least, int most) {
            if (at >= length) {
                return NO_NUMBER;
            }
            int digit = signs[at] - '0';
            if (digit < least || digit > most) {
                return NO_NUMBER;
            }
            at++;
            return digit;
        }
    }
}
