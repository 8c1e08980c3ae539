/** Promises 1 to 8: a new object, way, thing, person, pole, say, wipe, fault. */
public final class CornersTest {
    private static final Check CHECK = new Check();

    public static void main(String[] args) {
        newObject();
        ways();
        things();
        people();
        pole();
        signs();
        faultsOfWholeTexts();
        everySignAtEveryPlace();
        CHECK.end();
    }

    private static void newObject() {
        SwornLane x = new SwornLane();
        for (int what = 0; what <= 5; what++) {
            CHECK.due("new told(" + what + ")", x.told(what), what == 2 ? 1 : 0);
        }
        for (int person = 0; person < 6; person++) {
            CHECK.due("new person is here", x.told(10 + person), SwornLane.NONE);
            CHECK.due("new person is not faint", x.told(20 + person), 0);
            CHECK.due("new person does not sit", x.told(30 + person), 0);
        }
        for (int i = 0; i < 8; i++) {
            CHECK.due("new thing lies on none", x.told(40 + i), SwornLane.NONE);
            CHECK.due("new thing is carried by none", x.told(50 + i), SwornLane.NONE);
            CHECK.due("new corner has no ways", x.told(60 + i), 0);
        }
        CHECK.due("new fault()", x.fault(), SwornLane.NONE);
        CHECK.due("new liars(-1)", x.liars(-1), 32);
        CHECK.due("new restore(0)", x.restore(0), SwornLane.STATE);
        CHECK.due("new restore(1)", x.restore(1), SwornLane.STATE);
    }

    private static void ways() {
        SwornLane x = new SwornLane();
        CHECK.due("way(0, 7, true)", x.way(0, 7, true), 1);
        CHECK.due("the same the other way round", x.way(7, 0, true), 1);
        CHECK.due("way(7, 6, true)", x.way(7, 6, true), 2);
        CHECK.due("told(67)", x.told(67), 0b1000001);
        CHECK.due("told(60)", x.told(60), 128);
        CHECK.due("told(66)", x.told(66), 128);
        CHECK.due("way(1, 2, false) of none", x.way(1, 2, false), 2);
        CHECK.due("way(7, 0, false)", x.way(7, 0, false), 1);
        CHECK.due("told(60) after", x.told(60), 0);
        String before = Check.all(x);
        CHECK.due("way(-1, 0, true)", x.way(-1, 0, true), SwornLane.UNKNOWN);
        CHECK.due("way(0, -1, true)", x.way(0, -1, true), SwornLane.UNKNOWN);
        CHECK.due("way(0, 8, true)", x.way(0, 8, true), SwornLane.UNKNOWN);
        CHECK.due("way(8, 8, true)", x.way(8, 8, true), SwornLane.UNKNOWN);
        CHECK.due("way(MIN, MAX, true)", x.way(Integer.MIN_VALUE, Integer.MAX_VALUE, true), SwornLane.UNKNOWN);
        CHECK.due("way(3, 3, true)", x.way(3, 3, true), SwornLane.OUTSIDE);
        CHECK.due("way(3, 3, false)", x.way(3, 3, false), SwornLane.OUTSIDE);
        CHECK.so("refused ways change nothing", before.equals(Check.all(x)));
        int ways = 0;
        SwornLane full = new SwornLane();
        for (int a = 0; a < 8; a++) {
            for (int b = 0; b < a; b++) {
                CHECK.due("a way more", full.way(a, b, true), ++ways);
            }
        }
    }

    private static void things() {
        SwornLane x = new SwornLane();
        CHECK.due("thing(7, 7)", x.thing(7, 7), SwornLane.NONE);
        CHECK.due("thing(7, 0)", x.thing(7, 0), 7);
        CHECK.due("thing(7, -1)", x.thing(7, -1), 0);
        CHECK.due("thing(7, -1) again", x.thing(7, -1), SwornLane.NONE);
        CHECK.due("told(47)", x.told(47), SwornLane.NONE);
        Check.act(x, "t2aA(A$2");
        CHECK.due("told(52) carried", x.told(52), 0);
        CHECK.due("thing(2, 5) of a carried one", x.thing(2, 5), SwornLane.NONE);
        CHECK.due("nobody carries it then", x.told(52), SwornLane.NONE);
        CHECK.due("it lies there", x.told(42), 5);
        CHECK.due("he carries nothing", x.behind(0, 3), 0);
        String before = Check.all(x);
        CHECK.due("thing(-1, 0)", x.thing(-1, 0), SwornLane.UNKNOWN);
        CHECK.due("thing(8, -1)", x.thing(8, -1), SwornLane.UNKNOWN);
        CHECK.due("thing(2, -2)", x.thing(2, -2), SwornLane.UNKNOWN);
        CHECK.due("thing(2, 8)", x.thing(2, 8), SwornLane.UNKNOWN);
        CHECK.so("refused things change nothing", before.equals(Check.all(x)));
    }

    private static void people() {
        SwornLane x = new SwornLane();
        CHECK.due("person(5, 7, 9)", x.person(5, 7, 9), SwornLane.NONE);
        CHECK.due("told(15)", x.told(15), 7);
        CHECK.due("told(25)", x.told(25), 9);
        CHECK.due("faint by 9 he does not sit", x.told(35), 0);
        CHECK.due("person(5, 0, 0)", x.person(5, 0, 0), 7);
        CHECK.due("person(5, -1, 0)", x.person(5, -1, 0), 0);
        CHECK.due("person(5, -1, 0) again", x.person(5, -1, 0), SwornLane.NONE);
        Check.act(x, "t3at4aB(B$3C(C$4B!");
        CHECK.due("he sits", x.told(31), 1);
        CHECK.due("person(1, 0, 4)", x.person(1, 0, 4), 0);
        CHECK.due("he does not sit then", x.told(31), 0);
        CHECK.due("what he carried lies on none", x.told(43), SwornLane.NONE);
        CHECK.due("what he carried is carried by none", x.told(53), SwornLane.NONE);
        CHECK.due("what another carries stays", x.told(54), 2);
        String before = Check.all(x);
        CHECK.due("person(-1, 0, 0)", x.person(-1, 0, 0), SwornLane.UNKNOWN);
        CHECK.due("person(6, 0, 99)", x.person(6, 0, 99), SwornLane.UNKNOWN);
        CHECK.due("person(1, -2, 0)", x.person(1, -2, 0), SwornLane.UNKNOWN);
        CHECK.due("person(1, 8, 10)", x.person(1, 8, 10), SwornLane.UNKNOWN);
        CHECK.due("person(1, 0, -1)", x.person(1, 0, -1), SwornLane.OUTSIDE);
        CHECK.due("person(1, 0, 10)", x.person(1, 0, 10), SwornLane.OUTSIDE);
        CHECK.due("person(1, -1, 1)", x.person(1, -1, 1), SwornLane.OUTSIDE);
        CHECK.due("person(1, -1, -1)", x.person(1, -1, -1), SwornLane.OUTSIDE);
        CHECK.so("refused people change nothing", before.equals(Check.all(x)));
    }

    private static void pole() {
        SwornLane x = new SwornLane();
        CHECK.due("pole(true)", x.pole(true), 1);
        CHECK.due("pole(false)", x.pole(false), 1);
        CHECK.due("pole(false) again", x.pole(false), 0);
        CHECK.due("told(2)", x.told(2), 0);
        CHECK.due("pole(true) from down", x.pole(true), 0);
        CHECK.due("told(2) up", x.told(2), 1);
    }

    private static void signs() {
        SwornLane x = new SwornLane();
        CHECK.due("say(32)", x.say(32), SwornLane.OUTSIDE);
        CHECK.due("say(127)", x.say(127), SwornLane.OUTSIDE);
        CHECK.due("say(-1)", x.say(-1), SwornLane.OUTSIDE);
        CHECK.due("a refused sign leaves no fault", x.fault(), SwornLane.NONE);
        CHECK.due("say(33)", x.say(33), 1);
        CHECK.due("say(126)", x.say(126), 2);
        CHECK.due("wipe()", x.wipe(), 2);
        CHECK.due("wipe() of nothing", x.wipe(), 0);
        for (int i = 1; i <= 60; i++) {
            CHECK.due("a sign more", x.say('p'), i);
        }
        CHECK.due("the 61st", x.say('p'), SwornLane.FULL);
        CHECK.due("the 61st, outside", x.say(32), SwornLane.OUTSIDE);
        CHECK.due("the full pad has no fault", x.fault(), SwornLane.NONE);
        CHECK.due("told(0)", x.told(0), 60);
        CHECK.due("60 acts", x.done(), 60);
        CHECK.due("the pad is empty then", x.wipe(), 0);
    }

    private static void faultsOfWholeTexts() {
        String[] sound = {"", "wab", "xhg", "t0a", "t7h", "p", ".", "A(", "F)", "Ah", "B$0", "C$7", "D!", "ppAaA$1.wcc"};
        for (String text : sound) {
            CHECK.due("fault of " + text, Check.saying(text).fault(), SwornLane.NONE);
        }
        fault("w", 1);
        fault("wa", 2);
        fault("wi", 1);
        fault("wai", 2);
        fault("x", 1);
        fault("xA", 1);
        fault("t", 1);
        fault("ta", 1);
        fault("t8", 1);
        fault("t7", 2);
        fault("t77", 2);
        fault("A", 1);
        fault("AA", 1);
        fault("Ai", 1);
        fault("A$", 2);
        fault("A$8", 2);
        fault("A$a", 2);
        fault("G", 0);
        fault("a", 0);
        fault("0", 0);
        fault("(", 0);
        fault("p.q", 2);
        fault("wabwacA", 7);
        fault("A(Aw", 3);
        StringBuilder full = new StringBuilder();
        for (int i = 0; i < 59; i++) {
            full.append('p');
        }
        fault(full + "A", 60);
        fault(full + "a", 59);
    }

    private static void fault(String text, int want) {
        CHECK.due("fault of " + text, Check.saying(text).fault(), want);
    }

    /** What may stand at each place of an act, told sign by sign. */
    private static void everySignAtEveryPlace() {
        String[] begun = {"", "w", "wc", "x", "xc", "t", "t3", "E", "E$"};
        String[] may = {
            "wxtp.ABCDEF", "abcdefgh", "abcdefgh", "abcdefgh", "abcdefgh",
            "01234567", "abcdefgh", "()!$abcdefgh", "01234567"};
        for (int i = 0; i < begun.length; i++) {
            for (char sign = 33; sign <= 126; sign++) {
                SwornLane x = Check.saying(begun[i] + sign);
                int length = begun[i].length();
                boolean stands = x.fault() != length;
                CHECK.due(begun[i] + sign + " stands", stands ? 1 : 0, may[i].indexOf(sign) >= 0 ? 1 : 0);
            }
        }
    }
}
