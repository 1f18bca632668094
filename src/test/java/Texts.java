/** Brings texts onto the tape of a yard. */
final class Texts {
    static final String BOUNDS = "IndexOutOfBoundsException";
    static final String ARGUMENT = "IllegalArgumentException";
    static final String STATE = "IllegalStateException";

    private Texts() {
    }

    /** Feeds the text in pieces of twenty bytes, the last one filled up, and trims the tape behind it. */
    static void write(BendYard yard, String text) {
        int length = 0;
        for (int i = 0; i < text.length(); i += 20) {
            length = yard.feed(four(text, i), four(text, i + 4), four(text, i + 8), four(text, i + 12), four(text, i + 16));
        }
        yard.trim(length - Math.floorMod(-text.length(), 20));
    }

    static int four(String text, int from) {
        int number = 0;
        for (int i = from; i < from + 4; i++) {
            number = number << 8 | (i < text.length() ? text.charAt(i) : ' ') & 255;
        }
        return number;
    }

    static int compile(BendYard yard, int plan, String text) {
        write(yard, text);
        return yard.compile(plan);
    }

    /** Compiles the text as a plan of a new yard; it has to be told if the error that is due is 0, and only then. */
    static void errorIs(String text, int error, int place) {
        BendYard x = new BendYard();
        Check.same("compile of '" + text + "'", error, compile(x, 0, text));
        Check.same("errorAt of '" + text + "'", place, x.errorAt());
        Check.note(x.plan(0, 0) > 0 == (error == 0), "'" + text + "' was told or not, other than is due");
    }
}
