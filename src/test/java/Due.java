/** Counts the answers that are not the ones that are due, and prints each of them. */
final class Due {
    private static int wrong = 0;
    private static int asked = 0;

    interface Call {
        long answer();
    }

    private Due() {
    }

    static void answer(String call, long got, long want) {
        asked++;
        if (got == want) return;
        wrong++;
        System.out.println(call + " answered " + got + ", due is " + want);
    }

    static void text(String call, String got, String want) {
        asked++;
        if (got.equals(want)) return;
        wrong++;
        System.out.println(call + " answered " + got + ", due is " + want);
    }

    static void index(String call, Call made) {
        exception(call, made, IndexOutOfBoundsException.class);
    }

    static void argument(String call, Call made) {
        exception(call, made, IllegalArgumentException.class);
    }

    static void state(String call, Call made) {
        exception(call, made, IllegalStateException.class);
    }

    /** The class must be just this one: a class below it would be one that the machine throws. */
    private static void exception(String call, Call made, Class<?> want) {
        text(call, told(made), "throws." + want.getSimpleName());
    }

    /** What a call answers, or "throws." with the name of what it throws. */
    static String told(Call made) {
        try {
            return Long.toString(made.answer());
        } catch (RuntimeException e) {
            return "throws." + e.getClass().getSimpleName();
        }
    }

    static void end() {
        System.out.println(asked + " answers, " + wrong + " wrong");
        if (wrong != 0) System.exit(1);
    }
}
