import java.util.Random;

/** Long runs of drawn calls, each answered by the program and by the model. */
public final class ModelTest {
    private static final Check CHECK = new Check();
    private static final int RUNS = 1500, CALLS = 512;
    private static final String BODIES = "wxtp.ABCDEFabcdefgh01234567()!$";

    private final Random draw;
    private final SwornLane lane = new SwornLane();
    private final Model model = new Model();
    private final String run;
    private int calls = 0;

    private ModelTest(int seed) {
        draw = new Random(seed);
        run = "run " + seed + ", call ";
    }

    public static void main(String[] args) {
        for (int seed = 0; seed < RUNS; seed++) {
            new ModelTest(seed).play();
        }
        everyChance();
        everyYear();
        CHECK.end();
    }

    private static void everyChance() {
        SwornLane lane = new SwornLane();
        Model model = new Model();
        for (int i = 0; i < 5 * 11 * 4; i++) {
            int n = 1 + i / 44;
            int t = i / 4 % 11;
            CHECK.due("hang(" + n + ", " + t + ", " + i / 2 % 2 + ", " + i % 2 + ")",
                lane.hang(n, t, i / 2 % 2, i % 2), model.hang(n, t, i / 2 % 2, i % 2));
        }
    }

    private static void everyYear() {
        SwornLane lane = new SwornLane();
        Model model = new Model();
        for (int seed = 0; seed <= 9999; seed++) {
            int m = 1 + seed % 99;
            CHECK.due("year(" + seed + ", " + m + ", " + seed % 3 + ")",
                lane.year(seed, m, seed % 3), model.year(seed, m, seed % 3));
        }
    }

    private void play() {
        while (calls < CALLS - 80) {
            if (draw.nextInt(4) == 0) {
                sayActs();
            } else {
                callOne();
            }
        }
        for (int what = 0; what < 68; what++) {
            due("told(" + what + ")", lane.told(what), model.told(what));
        }
    }

    private void due(String call, long got, long want) {
        calls++;
        CHECK.due(run + calls + ": " + call, got, want);
    }

    /** Mostly as told, now and then a little or far outside. */
    private int number(int least, int most) {
        int luck = draw.nextInt(60);
        if (luck == 0) {
            return least - 1;
        }
        if (luck == 1) {
            return most + 1;
        }
        if (luck == 2) {
            return draw.nextInt();
        }
        return least + draw.nextInt(most - least + 1);
    }

    private void say(int sign) {
        due("say(" + sign + ")", lane.say(sign), model.say(sign));
    }

    /** Acts that are well told, so that sessions come to something; few corners and people, so that they meet. */
    private void sayActs() {
        for (int acts = 1 + draw.nextInt(4); acts > 0; acts--) {
            String act = act();
            for (char sign : act.toCharArray()) {
                say(sign);
            }
        }
    }

    private String act() {
        char one = (char) ('a' + draw.nextInt(draw.nextBoolean() ? 3 : 8));
        char other = (char) ('a' + draw.nextInt(draw.nextBoolean() ? 3 : 8));
        char who = (char) ('A' + draw.nextInt(draw.nextBoolean() ? 2 : 6));
        char thing = (char) ('0' + draw.nextInt(draw.nextBoolean() ? 2 : 8));
        switch (draw.nextInt(16)) {
            case 0:
            case 1:
                return "w" + one + other;
            case 2:
                return "x" + one + other;
            case 3:
            case 4:
                return "t" + thing + one;
            case 5:
                return draw.nextInt(4) == 0 ? "p" : ".";
            case 6:
            case 7:
                return who + "(";
            case 8:
                return who + ")";
            case 9:
            case 10:
                return "" + who + one;
            case 11:
            case 12:
                return who + "$" + thing;
            case 13:
                return draw.nextInt(3) == 0 ? who + "!" : ".";
            case 14:
                return "...";
            default:
                return draw.nextInt(3) == 0 ? "" + BODIES.charAt(draw.nextInt(BODIES.length())) : "";
        }
    }

    private void callOne() {
        switch (draw.nextInt(4)) {
            case 0:
                callOfPartOne();
                break;
            case 1:
                callOfPartTwo();
                break;
            case 2:
                callOfPartThree();
                break;
            default:
                callOfPartFour();
                break;
        }
    }

    private void callOfPartOne() {
        int a = number(0, 7);
        int b = number(0, 7);
        boolean is = draw.nextInt(3) != 0;
        switch (draw.nextInt(9)) {
            case 0:
            case 1:
                due("way(" + a + ", " + b + ", " + is + ")", lane.way(a, b, is), model.way(a, b, is));
                break;
            case 2:
                b = number(-1, 7);
                due("thing(" + a + ", " + b + ")", lane.thing(a, b), model.thing(a, b));
                break;
            case 3:
                a = number(0, 5);
                b = number(-1, 7);
                int faint = draw.nextInt(3) == 0 ? 0 : number(0, 9);
                due("person(" + a + ", " + b + ", " + faint + ")", lane.person(a, b, faint), model.person(a, b, faint));
                break;
            case 4:
                due("pole(" + is + ")", lane.pole(is), model.pole(is));
                break;
            case 5:
                say(number(33, 126));
                break;
            case 6:
            case 7:
                due("wipe()", lane.wipe(), model.wipe());
                break;
            default:
                due("fault()", lane.fault(), model.fault());
                break;
        }
    }

    private void callOfPartTwo() {
        int a;
        int what;
        switch (draw.nextInt(7)) {
            case 0:
                what = number(0, 2);
                due("judge(" + what + ")", lane.judge(what), model.judge(what));
                break;
            case 1:
                a = number(0, 5);
                what = number(0, 3);
                due("behind(" + a + ", " + what + ")", lane.behind(a, what), model.behind(a, what));
                break;
            case 2:
                a = number(0, 7);
                what = number(0, 1);
                due("lies(" + a + ", " + what + ")", lane.lies(a, what), model.lies(a, what));
                break;
            case 3:
                what = number(0, 4);
                due("there(" + what + ")", lane.there(what), model.there(what));
                break;
            case 4:
                what = number(0, 1);
                due("first(" + what + ")", lane.first(what), model.first(what));
                break;
            default:
                int done = model.done();
                due("done()", lane.done(), done);
                // A text that can not be is mostly wiped, so that the next one has its turn.
                if (done < 0 && draw.nextInt(4) != 0) {
                    due("wipe()", lane.wipe(), model.wipe());
                }
                break;
        }
    }

    private void callOfPartThree() {
        int a = number(0, 7);
        int b = number(0, 7);
        int what = number(0, 1);
        int i = number(0, 9);
        switch (draw.nextInt(8)) {
            case 0:
                due("join(" + a + ", " + b + ")", lane.join(a, b), model.join(a, b));
                break;
            case 1:
                due("cut(" + a + ", " + b + ", " + what + ")", lane.cut(a, b, what), model.cut(a, b, what));
                break;
            case 2:
            case 3:
                int j = number(0, 9);
                int k = number(0, 9);
                due("rule(" + i + ", " + j + ", " + k + ")", lane.rule(i, j, k), model.rule(i, j, k));
                break;
            case 4:
                if (draw.nextInt(5) == 0) {
                    due("unrule()", lane.unrule(), model.unrule());
                }
                break;
            case 5:
                int set = number(0, 1023);
                due("close(" + set + ")", lane.close(set), model.close(set));
                break;
            case 6:
                due("least(" + i + ", " + what + ")", lane.least(i, what), model.least(i, what));
                break;
            default:
                a = number(0, 7);
                due("walk(" + a + ", " + what + ")", lane.walk(a, what), model.walk(a, what));
                break;
        }
    }

    private void callOfPartFour() {
        int what = number(0, 2);
        int k = number(0, 1);
        switch (draw.nextInt(10)) {
            case 0:
            case 1:
                int x = number(0, 4);
                int y = number(0, 5);
                boolean yes = draw.nextBoolean();
                due("swore(" + x + ", " + what + ", " + y + ", " + yes + ")",
                    lane.swore(x, what, y, yes), model.swore(x, what, y, yes));
                break;
            case 2:
                if (draw.nextInt(3) == 0) {
                    due("forget()", lane.forget(), model.forget());
                }
                break;
            case 3:
                int i = number(-1, draw.nextBoolean() ? 4 : 32);
                due("liars(" + i + ")", lane.liars(i), model.liars(i));
                break;
            case 4:
                due("ask(" + k + ")", lane.ask(k), model.ask(k));
                break;
            case 5:
                int t = number(0, 10);
                int part = number(0, 1);
                int n = number(1, draw.nextInt(50) == 0 ? 5 : 3);
                due("hang(" + n + ", " + t + ", " + k + ", " + part + ")",
                    lane.hang(n, t, k, part), model.hang(n, t, k, part));
                break;
            case 6:
                int seed = number(0, 9999);
                int m = number(1, 99);
                due("year(" + seed + ", " + m + ", " + what + ")",
                    lane.year(seed, m, what), model.year(seed, m, what));
                break;
            case 7:
                due("image(" + k + ")", lane.image(k), model.image(k));
                break;
            case 8:
                if (draw.nextInt(3) == 0) {
                    due("restore(" + k + ")", lane.restore(k), model.restore(k));
                }
                break;
            default:
                int told = number(0, 67);
                due("told(" + told + ")", lane.told(told), model.told(told));
                break;
        }
    }
}
