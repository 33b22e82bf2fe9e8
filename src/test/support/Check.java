/** Counts and prints the answers that are not the ones that are due; with what most tests use. */
class Check {
    static final int UNKNOWN = -1;
    static final int BAD_VALUE = -2;
    static final int FULL = -3;
    static final int NOT_POSSIBLE = -4;
    static final int NONE = -5;

    /** No numbers of drawers, however many there are; as bits some of them would be those of 0, 1, or 15. */
    private static final int[] NOWHERE = {
        -1, -2, -3, -4, -6, -16, -31, -32, -64, 16, 17, 31, 32, 33, 47, 64, 256, 65536,
        Integer.MAX_VALUE, Integer.MIN_VALUE,
    };

    private static int wrong = 0;
    private static int asked = 0;
    private static String test = "";

    /** Tells which test is run, for what is printed. */
    static void begin(String name) {
        test = name + ": ";
    }

    static void due(String call, long got, long want) {
        asked++;
        if (got != want) {
            wrong++;
            System.out.println(test + call + " answered " + got + ", due is " + want);
        }
    }

    static void due(String call, double got, double want) {
        asked++;
        if (Double.doubleToLongBits(got) != Double.doubleToLongBits(want)) {
            wrong++;
            System.out.println(test + call + " answered " + got + ", due is " + want);
        }
    }

    static void holds(String what, boolean holds) {
        due(what, holds ? 1 : 0, 1);
    }

    static int wrongAnswers() {
        return wrong;
    }

    static int asked() {
        return asked;
    }

    static void end() {
        System.out.println(asked + " answers looked at, " + wrong + " not as due");
        if (wrong != 0) {
            System.exit(1);
        }
    }

    static void type(DrawerCabinet x, String text) {
        x.clearText();
        for (int i = 0; i < text.length(); i++) {
            x.type(text.charAt(i));
        }
    }

    /** A new cabinet with the drawers of a text. */
    static DrawerCabinet cabinet(String text) {
        DrawerCabinet x = new DrawerCabinet();
        type(x, text);
        holds("the text " + text + " is built", x.buildAll() > 0);
        return x;
    }

    /** A cabinet with the drawers of a text, all things on the table, and a game. */
    static DrawerCabinet game(String text) {
        DrawerCabinet x = cabinet(text);
        holds("the game begins", x.begin() > 0);
        return x;
    }

    /** Numbers that no drawer has if there are so many; NONE is not among them. */
    static int[] noDrawers(int drawers) {
        int[] numbers = java.util.Arrays.copyOf(NOWHERE, NOWHERE.length + 1);
        numbers[NOWHERE.length] = drawers;
        return numbers;
    }

    /** Numbers that no thing has; NONE is not among them. */
    static int[] noThings() {
        return noDrawers(12);
    }
}
