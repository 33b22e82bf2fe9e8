import java.io.IOException;
import java.nio.file.Files;
import java.nio.file.Path;
import java.util.function.Supplier;

/** The Terms' ERRORS, sentence by sentence, and how many calls an object serves. */
public final class ErrorsTests extends Check {
    private static final String TERMS = "ERRORS";

    public static void main(String[] args) {
        Sentences.run(ErrorsTests.class, TERMS);
    }

    /** Four drawers, some things laid, an older snapshot, and a text that can be built; no game. */
    private static DrawerCabinet laid() {
        DrawerCabinet x = cabinet("cs*2;0k1*1");
        x.keep();
        x.build(NONE, 2, 0, 5);
        x.build(2, 0, 0, 3);
        x.lay(1, 0, 1);
        x.lay(2, 1, 1);
        return x;
    }

    /** The same in a game: 0 is closed with a broken seal and a lifted bottom, 1 is open in it, 2 is open. */
    private static DrawerCabinet played() {
        DrawerCabinet x = laid();
        x.begin();
        x.take(10);
        x.open(0);
        x.lift(0);
        x.take(1);
        x.open(1);
        x.open(2);
        x.close(0);
        return x;
    }

    /** Sees that a refused call leaves a cabinet as one without that call is: in state, history, snapshot and text. */
    private static void changesNothing(Supplier<DrawerCabinet> setup, int answer, Told.Act refused) {
        DrawerCabinet x = setup.get();
        DrawerCabinet y = setup.get();
        due("the call", refused.on(x), answer);
        Told.same("the state", Told.state(x), Told.state(y));
        due("length of the text", x.count(10), y.count(10));
        due("states", x.count(9), y.count(9));
        for (int i = 0; i < 4; i++) {
            due("undo", x.undo(), y.undo());
            due("steps", x.count(5), y.count(5));
            due("drawers", x.count(0), y.count(0));
        }
        Told.same("the oldest state", Told.state(x), Told.state(y));
        due("restore", x.restore(), y.restore());
        due("build the text", x.buildAll(), y.buildAll());
        Told.same("the snapshot with the text", Told.state(x), Told.state(y));
    }

    // ---- the order of errors

    @Says(in = TERMS, words = "Errors are reported by the constants below.")
    static void errorsAreTheConstants() {
        DrawerCabinet x = new DrawerCabinet();
        due("unknown", x.open(0), DrawerCabinet.UNKNOWN);
        due("bad value", x.count(11), DrawerCabinet.BAD_VALUE);
        due("not possible", x.begin(), DrawerCabinet.NOT_POSSIBLE);
        due("none", x.undo(), DrawerCabinet.NONE);
        type(x, "x".repeat(60));
        due("full", x.type('x'), DrawerCabinet.FULL);
    }

    @Says(in = TERMS, words =
        "Where several errors can apply, the order of the @return line is the order of the checks.")
    static void orderWhereAllErrorsApply() {
        DrawerCabinet x = game("cl0;".repeat(11) + "cl0;ch;ch;ch;ch");
        type(x, "");
        due("build", x.build(16, 4, 0, 10), UNKNOWN);
        due("build", x.build(15, 4, 0, 10), BAD_VALUE);
        due("build", x.build(15, 0, 0, 9), FULL);
        due("buildAll", x.buildAll(), -100);
        due("setBottoms", x.setBottoms(16, 4), UNKNOWN);
        due("setBottoms", x.setBottoms(15, 4), BAD_VALUE);
        due("setBottoms", x.setBottoms(15, 0), NOT_POSSIBLE);
        due("lay", x.lay(12, 16, 1), UNKNOWN);
        due("lay", x.lay(0, 16, 1), UNKNOWN);
        due("lay", x.lay(12, 15, 1), UNKNOWN);
        due("lay", x.lay(0, NONE, 1), BAD_VALUE);
        due("lay", x.lay(0, NONE, 0), NOT_POSSIBLE);
        due("needs", x.needs(16, 5), UNKNOWN);
        due("needs", x.needs(0, 5), BAD_VALUE);
        due("needs", x.needs(0, 4), NOT_POSSIBLE);
        due("drawer", x.drawer(16, 11), UNKNOWN);
        due("thing", x.thing(12, 4), UNKNOWN);
    }

    @Says(in = TERMS, words = {"NONE is no error;", "it is returned only if no error applies."})
    static void noneOnlyIfNoErrorApplies() {
        DrawerCabinet x = cabinet("ch");
        due("close a closed one without a game", x.close(0), NOT_POSSIBLE);
        due("lift without bottoms and a game", x.lift(0), NOT_POSSIBLE);
        due("seal without a seal and a game", x.seal(0), NOT_POSSIBLE);
        x.begin();
        due("close a closed one", x.close(0), NONE);
        due("lift without bottoms", x.lift(0), NONE);
        due("seal without a seal", x.seal(0), NONE);
        due("bottoms as they are in a game", x.setBottoms(0, 0), NOT_POSSIBLE);
        due("a thing where it lies in a game", x.lay(0, NONE, 0), NOT_POSSIBLE);
        x.giveUp();
        due("bottoms as they are", x.setBottoms(0, 0), NONE);
        due("a thing where it lies", x.lay(0, NONE, 0), NONE);
    }

    // ---- a call that returns an error or NONE changes nothing

    @Says(in = TERMS, words = "A call that returns an error or NONE changes nothing.")
    static void refusedBuildings() {
        changesNothing(ErrorsTests::laid, UNKNOWN, x -> x.build(4, 0, 0, 0));
        changesNothing(ErrorsTests::laid, BAD_VALUE, x -> x.build(NONE, 4, 0, 0));
        changesNothing(ErrorsTests::laid, BAD_VALUE, x -> x.build(0, 1, 10, 0));
        changesNothing(ErrorsTests::laid, BAD_VALUE, x -> x.build(0, 2, 16, 0));
        changesNothing(ErrorsTests::laid, BAD_VALUE, x -> x.build(0, 0, 0, 10));
        changesNothing(ErrorsTests::played, NOT_POSSIBLE, x -> x.build(NONE, 0, 0, 0));
        changesNothing(ErrorsTests::played, NOT_POSSIBLE, DrawerCabinet::buildAll);
        changesNothing(ErrorsTests::laid, UNKNOWN, x -> x.setBottoms(4, 1));
        changesNothing(ErrorsTests::laid, BAD_VALUE, x -> x.setBottoms(0, 4));
        changesNothing(ErrorsTests::played, NOT_POSSIBLE, x -> x.setBottoms(0, 1));
        changesNothing(ErrorsTests::laid, NONE, x -> x.setBottoms(0, 2));
    }

    @Says(in = TERMS, words = "A call that returns an error or NONE changes nothing.")
    static void refusedLayings() {
        changesNothing(ErrorsTests::laid, UNKNOWN, x -> x.lay(12, 0, 0));
        changesNothing(ErrorsTests::laid, UNKNOWN, x -> x.lay(1, 4, 0));
        changesNothing(ErrorsTests::laid, BAD_VALUE, x -> x.lay(1, 0, 3));
        changesNothing(ErrorsTests::laid, BAD_VALUE, x -> x.lay(1, NONE, 1));
        changesNothing(ErrorsTests::played, NOT_POSSIBLE, x -> x.lay(1, NONE, 0));
        changesNothing(ErrorsTests::laid, NONE, x -> x.lay(1, 0, 1));
        changesNothing(ErrorsTests::laid, NONE, x -> x.lay(3, NONE, 0));
    }

    @Says(in = TERMS, words = "A call that returns an error or NONE changes nothing.")
    static void refusedTexts() {
        DrawerCabinet x = cabinet("ch");
        x.keep();
        type(x, "ch;".repeat(16) + "ch");
        int[] before = Told.state(x);
        due("full", x.buildAll(), FULL);
        type(x, "9h");
        due("unknown", x.buildAll(), UNKNOWN);
        type(x, "0h;0h;x");
        due("a fault", x.buildAll(), -106);
        type(x, "ch;".repeat(20));
        due("a fault", x.buildAll(), -160);
        due("no sixty-first", x.type('c'), FULL);
        Told.same("the state", Told.state(x), before);
        due("states", x.count(9), 1);
        due("length", x.clearText(), 60);
        due("the snapshot", x.restore(), 1);
    }

    @Says(in = TERMS, words = "A call that returns an error or NONE changes nothing.")
    static void refusedBeginningsAndEnds() {
        changesNothing(ErrorsTests::played, NOT_POSSIBLE, DrawerCabinet::begin);
        changesNothing(ErrorsTests::laid, NOT_POSSIBLE, DrawerCabinet::giveUp);
        DrawerCabinet x = cabinet("cl1");
        due("begin without a holder", x.begin(), NOT_POSSIBLE);
        due("game", x.count(1), 0);
        due("states", x.count(9), 1);
    }

    @Says(in = TERMS, words = "A call that returns an error or NONE changes nothing.")
    static void refusedOpeningsAndClosings() {
        changesNothing(ErrorsTests::played, UNKNOWN, x -> x.open(4));
        changesNothing(ErrorsTests::laid, NOT_POSSIBLE, x -> x.open(0));
        changesNothing(() -> game("ch;0h;ck0;cl0"), NOT_POSSIBLE, x -> x.open(1));
        changesNothing(() -> game("ch;0h;ck0;cl0"), NOT_POSSIBLE, x -> x.open(2));
        changesNothing(() -> game("ch;0h;ck0;cl0"), NOT_POSSIBLE, x -> x.open(3));
        changesNothing(ErrorsTests::played, NONE, x -> x.open(1));
        changesNothing(ErrorsTests::played, UNKNOWN, x -> x.close(-1));
        changesNothing(ErrorsTests::laid, NOT_POSSIBLE, x -> x.close(0));
        changesNothing(ErrorsTests::played, NOT_POSSIBLE, x -> x.close(1));
        changesNothing(ErrorsTests::played, NONE, x -> x.close(0));
    }

    @Says(in = TERMS, words = "A call that returns an error or NONE changes nothing.")
    static void refusedLiftingsTakingsAndSealings() {
        changesNothing(ErrorsTests::played, UNKNOWN, x -> x.lift(4));
        changesNothing(ErrorsTests::laid, NOT_POSSIBLE, x -> x.lift(0));
        changesNothing(ErrorsTests::played, NOT_POSSIBLE, x -> x.lift(0));
        changesNothing(ErrorsTests::played, NOT_POSSIBLE, x -> x.lift(1));
        changesNothing(ErrorsTests::played, NONE, x -> x.lift(2));
        changesNothing(ErrorsTests::played, UNKNOWN, x -> x.take(12));
        changesNothing(ErrorsTests::laid, NOT_POSSIBLE, x -> x.take(0));
        changesNothing(ErrorsTests::played, NOT_POSSIBLE, x -> x.take(2));
        changesNothing(ErrorsTests::played, NONE, x -> x.take(1));
        changesNothing(ErrorsTests::played, UNKNOWN, x -> x.seal(4));
        changesNothing(ErrorsTests::laid, NOT_POSSIBLE, x -> x.seal(0));
        changesNothing(ErrorsTests::played, NOT_POSSIBLE, x -> x.seal(0));
        changesNothing(ErrorsTests::played, NONE, x -> x.seal(1));
    }

    @Says(in = TERMS, words = "A call that returns an error or NONE changes nothing.")
    static void refusedHistory() {
        DrawerCabinet x = game("cs");
        x.open(0);
        int[] before = Told.state(x);
        due("no snapshot", x.restore(), NONE);
        Told.same("the state", Told.state(x), before);
        due("states", x.count(9), 3);
        x.undo();
        x.undo();
        x.undo();
        before = Told.state(x);
        due("no history", x.undo(), NONE);
        Told.same("the state", Told.state(x), before);
        due("no snapshot yet", x.restore(), NONE);
    }

    @Says(in = TERMS, words = "A call that returns an error or NONE changes nothing.")
    static void refusedQuestions() {
        changesNothing(ErrorsTests::played, UNKNOWN, x -> x.drawer(4, 0));
        changesNothing(ErrorsTests::played, BAD_VALUE, x -> x.drawer(0, 11));
        changesNothing(ErrorsTests::played, UNKNOWN, x -> x.thing(12, 0));
        changesNothing(ErrorsTests::played, BAD_VALUE, x -> x.thing(0, 4));
        changesNothing(ErrorsTests::played, UNKNOWN, x -> x.needs(4, 0));
        changesNothing(ErrorsTests::played, BAD_VALUE, x -> x.needs(0, 5));
        changesNothing(() -> game("cl0;ch"), NOT_POSSIBLE, x -> x.needs(0, 0));
        changesNothing(ErrorsTests::played, UNKNOWN, x -> x.hint(4));
        changesNothing(ErrorsTests::laid, NOT_POSSIBLE, x -> x.hint(0));
        changesNothing(() -> game("cl0;ch"), NOT_POSSIBLE, x -> x.hint(0));
        changesNothing(ErrorsTests::played, NONE, x -> x.hint(2));
        changesNothing(ErrorsTests::played, BAD_VALUE, x -> x.count(11));
    }

    // ---- the constants

    @Says(in = TERMS, words = {
        "The constants: `UNKNOWN = -1`: There is no such drawer or thing.", "`BAD_VALUE = -2`: Another argument is out of range."})
    static void wrongArguments() {
        due("UNKNOWN", DrawerCabinet.UNKNOWN, -1);
        due("BAD_VALUE", DrawerCabinet.BAD_VALUE, -2);
        DrawerCabinet x = cabinet("ch");
        due("no such drawer", x.drawer(1, 0), -1);
        due("no such thing", x.thing(12, 0), -1);
        due("another argument", x.drawer(0, 11), -2);
    }

    @Says(in = TERMS, words = {"`FULL = -3`: There is no more room.", "`NOT_POSSIBLE = -4`: This is not possible."})
    static void noRoomAndNotPossible() {
        due("FULL", DrawerCabinet.FULL, -3);
        due("NOT_POSSIBLE", DrawerCabinet.NOT_POSSIBLE, -4);
        DrawerCabinet x = game("ch;".repeat(15) + "ch");
        due("no more room", x.build(NONE, 0, 0, 0), -3);
        due("not possible", x.begin(), -4);
    }

    @Says(in = TERMS, words = "`NONE = -5`: There is no such thing; not an error.")
    static void noSuchThing() {
        due("NONE", DrawerCabinet.NONE, -5);
        DrawerCabinet x = new DrawerCabinet();
        due("undo", x.undo(), -5);
        due("the cabinet as an outer drawer", x.build(-5, 0, 0, 0), 0);
        due("told", x.drawer(0, 0), -5);
    }

    // ---- what the interface says

    @Says(in = TERMS, words = {
        "Ahead of the calls `build`, `buildAll`, `setBottoms`, `lay` the interface says: ---- building.",
        "Ahead of the calls `begin`, `giveUp`, `open`, `close`, `lift`, `take`, `seal` the interface says: ---- the game.",
        "Ahead of the calls `type`, `clearText` the interface says: ---- texts.",
        "Ahead of the calls `undo`, `keep`, `restore` the interface says: ---- history.",
        "Ahead of the calls `drawer`, `thing`, `needs`, `hint`, `minutes`, `minutesBits`, `count` the interface says: ---- what is told."})
    static void theInterfaceSaysSo() throws IOException {
        String[] groups = {
            "building: build buildAll setBottoms lay", "the game: begin giveUp open close lift take seal", "texts: type clearText",
            "history: undo keep restore", "what is told: drawer thing needs hint minutes minutesBits count",
        };
        String source = Files.readString(Path.of("src/main/java/DrawerCabinet.java"));
        int at = 0;
        for (String group : groups) {
            at = behind(source, "// ---- " + group.replaceAll(":.*", ""), at);
            for (String call : group.replaceAll(".*: ", "").split(" ")) {
                at = behind(source, " " + call + "(", at);
            }
        }
    }

    private static int behind(String source, String words, int from) {
        int at = source.indexOf(words, from);
        holds(words + " stands behind what comes before it", at >= 0);
        return Math.max(at, from);
    }

    // ---- how many calls

    @Says(in = "What it is", words = "An object is used for at most 512 calls after it has been made;")
    static void fiveHundredAndTwelveCalls() {
        DrawerCabinet x = new DrawerCabinet();
        x.build(NONE, 3, 0, 9);
        x.begin();
        for (int calls = 2; calls < 510; calls += 2) {
            due("open", x.open(0), 1);
            due("close", x.close(0), 0);
        }
        due("steps", x.count(5), 508);
        due("the 512th call", x.minutes(), 508 * 3.25);
    }
}
