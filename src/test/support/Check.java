/** Counts and prints the answers that are not the ones that are due. */
final class Check {
    private static int wrong = 0;
    private static int asked = 0;

    private Check() {
    }

    static void due(String call, long got, long want) {
        asked++;
        if (got != want) {
            wrong++;
            System.out.println(call + " answered " + got + ", due is " + want);
        }
    }

    static void due(String call, double got, double want) {
        asked++;
        if (Double.doubleToLongBits(got) != Double.doubleToLongBits(want)) {
            wrong++;
            System.out.println(call + " answered " + got + ", due is " + want);
        }
    }

    static void holds(String what, boolean holds) {
        due(what, holds ? 1 : 0, 1);
    }

    static int wrongAnswers() {
        return wrong;
    }

    static void end() {
        System.out.println(asked + " answers looked at, " + wrong + " not as due");
        if (wrong != 0) {
            System.exit(1);
        }
    }

    static void type(DrawerCabinet cabinet, String text) {
        cabinet.clearText();
        for (int i = 0; i < text.length(); i++) {
            cabinet.type(text.charAt(i));
        }
    }

    /** A new cabinet with the drawers of a text. */
    static DrawerCabinet cabinet(String text) {
        DrawerCabinet cabinet = new DrawerCabinet();
        type(cabinet, text);
        int built = cabinet.buildAll();
        holds("the text " + text + " is built", built > 0);
        return cabinet;
    }
}
