/** Promises 15 to 20: join, cut, rule, unrule, close, least. */
public final class JoinsTest {
    private static final Check CHECK = new Check();

    public static void main(String[] args) {
        joins();
        cuts();
        rules();
        closed();
        least();
        CHECK.end();
    }

    private static void joins() {
        SwornLane x = new SwornLane();
        for (int corner = 0; corner < 7; corner++) {
            x.way(corner, corner + 1, true);
        }
        CHECK.due("join(0, 7)", x.join(0, 7), 7);
        CHECK.due("join(7, 0)", x.join(7, 0), 7);
        CHECK.due("join(3, 3)", x.join(3, 3), 0);
        x.way(1, 6, true);
        CHECK.due("join(0, 7) by a shorter one", x.join(0, 7), 3);
        Check.say(x, "wah");
        CHECK.due("what is only said joins nothing", x.join(0, 7), 3);
        x.way(6, 7, false);
        CHECK.due("join(0, 7) cut off", x.join(0, 7), SwornLane.NONE);
        CHECK.due("join(7, 7) cut off", x.join(7, 7), 0);
        CHECK.due("join(-1, 0)", x.join(-1, 0), SwornLane.UNKNOWN);
        CHECK.due("join(0, 8)", x.join(0, 8), SwornLane.UNKNOWN);
        CHECK.due("join(8, 8)", x.join(8, 8), SwornLane.UNKNOWN);
    }

    private static void cuts() {
        SwornLane x = new SwornLane();
        CHECK.due("cut(7, 0, 0) of none", x.cut(7, 0, 0), 0);
        CHECK.due("cut(7, 0, 1) of none", x.cut(7, 0, 1), 128);
        x.way(0, 1, true);
        x.way(0, 2, true);
        x.way(1, 2, true);
        x.way(2, 3, true);
        x.way(3, 4, true);
        x.way(3, 5, true);
        x.way(4, 5, true);
        CHECK.due("cut(0, 5, 0) by the bridge", x.cut(0, 5, 0), 1);
        CHECK.due("cut(0, 5, 1) by the bridge", x.cut(0, 5, 1), 0b111);
        CHECK.due("cut(5, 0, 0)", x.cut(5, 0, 0), 1);
        CHECK.due("cut(5, 0, 1)", x.cut(5, 0, 1), 0b111000);
        CHECK.due("cut(0, 1, 0)", x.cut(0, 1, 0), 2);
        CHECK.due("cut(0, 1, 1)", x.cut(0, 1, 1), 1);
        CHECK.due("cut(2, 1, 1), without 0 as with it", x.cut(2, 1, 1), 0b111100);
        CHECK.due("cut(0, 6, 0)", x.cut(0, 6, 0), 0);
        CHECK.due("cut(0, 6, 1)", x.cut(0, 6, 1), 0b111111);
        CHECK.due("cut(6, 0, 1)", x.cut(6, 0, 1), 64);
        CHECK.due("cut(8, 8, 2)", x.cut(8, 8, 2), SwornLane.UNKNOWN);
        CHECK.due("cut(0, -1, 0)", x.cut(0, -1, 0), SwornLane.UNKNOWN);
        CHECK.due("cut(4, 4, 0)", x.cut(4, 4, 0), SwornLane.OUTSIDE);
        CHECK.due("cut(0, 1, 2)", x.cut(0, 1, 2), SwornLane.OUTSIDE);
        CHECK.due("cut(0, 1, -1)", x.cut(0, 1, -1), SwornLane.OUTSIDE);
    }

    private static void rules() {
        SwornLane x = new SwornLane();
        for (int i = 1; i <= 12; i++) {
            CHECK.due("a rule more", x.rule(9, 0, 9), i);
        }
        CHECK.due("the 13th", x.rule(0, 0, 0), SwornLane.FULL);
        CHECK.due("the 13th, outside", x.rule(0, 0, -1), SwornLane.OUTSIDE);
        CHECK.due("told(4)", x.told(4), 12);
        CHECK.due("unrule()", x.unrule(), 12);
        CHECK.due("unrule() of none", x.unrule(), 0);
        CHECK.due("told(4) of none", x.told(4), 0);
        CHECK.due("rule(-1, 0, 0)", x.rule(-1, 0, 0), SwornLane.OUTSIDE);
        CHECK.due("rule(0, 10, 0)", x.rule(0, 10, 0), SwornLane.OUTSIDE);
        CHECK.due("rule(0, 0, 10)", x.rule(0, 0, 10), SwornLane.OUTSIDE);
        CHECK.due("told(4) after refusals", x.told(4), 0);
    }

    private static void closed() {
        SwornLane x = new SwornLane();
        CHECK.due("close(1023) without rules", x.close(1023), 1023);
        // Told backwards, so that each round adds one claim alone.
        for (int i = 8; i >= 0; i--) {
            x.rule(i, i, i + 1);
        }
        CHECK.due("close(0)", x.close(0), 0);
        CHECK.due("close(1)", x.close(1), 1023);
        CHECK.due("close(256)", x.close(256), 768);
        CHECK.due("close(-1)", x.close(-1), SwornLane.OUTSIDE);
        CHECK.due("close(1024)", x.close(1024), SwornLane.OUTSIDE);
        x.unrule();
        x.rule(0, 1, 2);
        CHECK.due("close(1) needs both", x.close(1), 1);
        CHECK.due("close(2) needs both", x.close(2), 2);
        CHECK.due("close(3)", x.close(3), 7);
    }

    private static void least() {
        SwornLane x = new SwornLane();
        CHECK.due("least(0, 0) without rules", x.least(0, 0), SwornLane.NONE);
        x.rule(0, 0, 0);
        CHECK.due("what follows from itself alone", x.least(0, 1), SwornLane.NONE);
        x.unrule();
        x.rule(0, 1, 9);
        x.rule(2, 3, 0);
        x.rule(4, 5, 1);
        CHECK.due("least(9, 0)", x.least(9, 0), 2);
        CHECK.due("least(9, 1)", x.least(9, 1), 3);
        x.rule(8, 8, 9);
        CHECK.due("least(9, 0) by one", x.least(9, 0), 1);
        CHECK.due("least(9, 1) by one", x.least(9, 1), 256);
        x.rule(7, 7, 8);
        CHECK.due("least(9, 1) by a lesser one", x.least(9, 1), 128);
        CHECK.due("least(8, 1)", x.least(8, 1), 128);
        CHECK.due("least(7, 1)", x.least(7, 1), SwornLane.NONE);
        x.unrule();
        x.rule(6, 6, 5);
        x.rule(5, 9, 6);
        CHECK.due("not by way of itself", x.least(6, 1), 0b1000100000);
        CHECK.due("least(-1, 0)", x.least(-1, 0), SwornLane.OUTSIDE);
        CHECK.due("least(10, 0)", x.least(10, 0), SwornLane.OUTSIDE);
        CHECK.due("least(0, 2)", x.least(0, 2), SwornLane.OUTSIDE);
        CHECK.due("least(0, -1)", x.least(0, -1), SwornLane.OUTSIDE);
    }
}
