/** Collects answers that are not the ones that are due. */
final class Check {
    private int calls = 0;
    private int wrong = 0;

    void due(String call, long got, long want) {
        calls++;
        if (got != want) {
            wrong++;
            System.out.println(call + " answered " + got + ", due is " + want);
        }
    }

    void so(String what, boolean is) {
        due(what, is ? 1 : 0, 1);
    }

    /** A new object with that text on its pad. */
    static SwornLane saying(String text) {
        SwornLane x = new SwornLane();
        say(x, text);
        return x;
    }

    static void say(SwornLane x, String text) {
        for (char sign : text.toCharArray()) {
            x.say(sign);
        }
    }

    /** Says the text in place of whatever the pad held. */
    static void sayAnew(SwornLane x, String text) {
        x.wipe();
        say(x, text);
    }

    static void act(SwornLane x, String text) {
        sayAnew(x, text);
        if (x.done() < 0) {
            throw new IllegalStateException("a test's own text can not be: " + text);
        }
    }

    /** All that told() tells, as one text. */
    static String all(SwornLane x) {
        StringBuilder text = new StringBuilder();
        for (int what = 0; what < 70; what++) {
            text.append(x.told(what)).append(' ');
        }
        return text.toString();
    }

    void end() {
        System.out.println(calls + " checks, " + wrong + " wrong");
        if (wrong != 0) {
            System.exit(1);
        }
    }
}
