/** Promises 21 to 27: swore, forget, liars, ask, walk, hang, year. */
public final class LiarsTest {
    private static final Check CHECK = new Check();

    public static void main(String[] args) {
        sights();
        liars();
        ask();
        walks();
        hang();
        year();
        yearAtItsEdges();
        CHECK.end();
    }

    private static void sights() {
        SwornLane x = new SwornLane();
        CHECK.due("swore(-1, 0, 0)", x.swore(-1, 0, 0, true), SwornLane.OUTSIDE);
        CHECK.due("swore(0, -1, 0)", x.swore(0, -1, 0, true), SwornLane.OUTSIDE);
        CHECK.due("swore(0, 0, -1)", x.swore(0, 0, -1, true), SwornLane.OUTSIDE);
        CHECK.due("swore(0, 1, 5)", x.swore(0, 1, 5, true), SwornLane.OUTSIDE);
        CHECK.due("swore(0, 2, -1)", x.swore(0, 2, -1, true), SwornLane.OUTSIDE);
        CHECK.due("told(5) after refusals", x.told(5), 0);
        for (int i = 1; i <= 8; i++) {
            CHECK.due("a sight more", x.swore(4, 2, 5, false), i);
        }
        CHECK.due("the 9th", x.swore(0, 0, 0, true), SwornLane.FULL);
        CHECK.due("the 9th, outside", x.swore(5, 0, 0, true), SwornLane.OUTSIDE);
        CHECK.due("told(5)", x.told(5), 8);
        CHECK.due("forget()", x.forget(), 8);
        CHECK.due("forget() of none", x.forget(), 0);
        CHECK.due("told(5) of none", x.told(5), 0);
    }

    private static void liars() {
        SwornLane x = new SwornLane();
        for (int i = 0; i < 32; i++) {
            CHECK.due("liars(" + i + ") of all", x.liars(i), i);
        }
        CHECK.due("liars(32)", x.liars(32), SwornLane.NONE);
        CHECK.due("liars(-2)", x.liars(-2), SwornLane.NONE);
        CHECK.due("liars(MIN)", x.liars(Integer.MIN_VALUE), SwornLane.NONE);
        // That 1 does not lie, says 0: both lie or neither.
        x.swore(0, 0, 1, true);
        CHECK.due("both or neither", x.liars(-1), 16);
        CHECK.due("liars(1), both", x.liars(1), 3);
        // That 3 lies, denies 2: both lie or neither.
        x.swore(2, 1, 3, false);
        CHECK.due("twice both or neither", x.liars(-1), 8);
        CHECK.due("liars(2)", x.liars(2), 12);
        // That just one lies, says 4: with one liar it would be 4, who then would not lie.
        x.swore(4, 2, 1, true);
        CHECK.due("just one: 4 lies", x.liars(-1), 3);
        CHECK.due("liars(0)", x.liars(0), 19);
        CHECK.due("liars(1)", x.liars(1), 28);
        CHECK.due("liars(2)", x.liars(2), 31);
        CHECK.due("liars(3)", x.liars(3), SwornLane.NONE);
        x.forget();
        x.swore(3, 0, 3, false);
        CHECK.due("nobody says that he lies", x.liars(-1), 0);
        CHECK.due("liars(0) of none", x.liars(0), SwornLane.NONE);
    }

    private static void ask() {
        SwornLane x = new SwornLane();
        CHECK.due("ask(0) of all", x.ask(0), 1);
        CHECK.due("ask(1) of all", x.ask(1), 16);
        CHECK.due("ask(-1)", x.ask(-1), SwornLane.OUTSIDE);
        CHECK.due("ask(2)", x.ask(2), SwornLane.OUTSIDE);
        x.swore(0, 0, 1, true);
        x.swore(0, 0, 2, true);
        x.swore(0, 0, 3, true);
        CHECK.due("ask(0), only 4 is left to ask of", x.ask(0), 4);
        CHECK.due("ask(1)", x.ask(1), 2);
        x.swore(0, 0, 4, true);
        CHECK.due("all lie, or none", x.liars(-1), 2);
        // That just one lies is not so: only who lies says yes. All else they answer alike.
        CHECK.due("ask(0), whether just one lies", x.ask(0), 21);
        CHECK.due("ask(1), whether just one lies", x.ask(1), 1);
        x.swore(0, 2, 1, true);
        CHECK.due("one set is left", x.liars(0), 31);
        CHECK.due("ask(0), nothing to be gained", x.ask(0), 0);
        CHECK.due("ask(1), nothing to be gained", x.ask(1), 1);
        x.forget();
        x.swore(0, 1, 0, false);
        CHECK.due("that tells nothing", x.ask(1), 16);
        x.swore(0, 1, 0, true);
        CHECK.due("ask(0) where nothing fits", x.ask(0), SwornLane.NONE);
        CHECK.due("ask(1) where nothing fits", x.ask(1), SwornLane.NONE);
        CHECK.due("ask(2) where nothing fits", x.ask(2), SwornLane.OUTSIDE);
    }

    private static void walks() {
        SwornLane x = new SwornLane();
        CHECK.due("walk(0, 0) without ways", x.walk(0, 0), 0);
        CHECK.due("walk(0, 1) without ways", x.walk(0, 1), SwornLane.NONE);
        x.way(0, 1, true);
        x.way(1, 2, true);
        CHECK.due("walk(0, 0), the end of three", x.walk(0, 0), 0);
        CHECK.due("walk(0, 1), the end of three", x.walk(0, 1), SwornLane.NONE);
        CHECK.due("walk(1, 0), the middle", x.walk(1, 0), 1);
        CHECK.due("walk(1, 1), the least", x.walk(1, 1), 0);
        x.way(0, 3, true);
        CHECK.due("walk(1, 1) where 0 goes on", x.walk(1, 1), 2);
        CHECK.due("walk(0, 1) where 1 goes on", x.walk(0, 1), 3);
        for (int a = 0; a < 8; a++) {
            for (int b = 0; b < a; b++) {
                x.way(a, b, true);
            }
        }
        CHECK.due("walk(0, 1) of all eight", x.walk(0, 1), 1);
        CHECK.due("walk(7, 1) of all eight", x.walk(7, 1), 0);
        for (int b = 0; b < 7; b++) {
            x.way(7, b, false);
        }
        CHECK.due("walk(0, 0) of seven", x.walk(0, 0), 0);
        CHECK.due("walk(7, 0) alone", x.walk(7, 0), 0);
        CHECK.due("walk(-1, 0)", x.walk(-1, 0), SwornLane.UNKNOWN);
        CHECK.due("walk(8, 2)", x.walk(8, 2), SwornLane.UNKNOWN);
        CHECK.due("walk(0, 2)", x.walk(0, 2), SwornLane.OUTSIDE);
        CHECK.due("walk(0, -1)", x.walk(0, -1), SwornLane.OUTSIDE);
    }

    private static void hang() {
        SwornLane x = new SwornLane();
        CHECK.due("two by halves, upper", x.hang(2, 5, 0, 0), 1);
        CHECK.due("two by halves, lower", x.hang(2, 5, 0, 1), 2);
        CHECK.due("three by tenths, upper", x.hang(3, 1, 0, 0), 7);
        CHECK.due("three by tenths, lower", x.hang(3, 1, 0, 1), 250);
        CHECK.due("four by halves, upper", x.hang(4, 5, 0, 0), 19);
        CHECK.due("four by halves, lower", x.hang(4, 5, 0, 1), 32);
        CHECK.due("five by halves, upper", x.hang(5, 5, 0, 0), 91);
        CHECK.due("five by halves, lower", x.hang(5, 5, 0, 1), 128);
        CHECK.due("never, upper", x.hang(5, 0, 0, 0), 0);
        CHECK.due("never, lower", x.hang(5, 0, 0, 1), 1);
        CHECK.due("always, lower", x.hang(5, 10, 0, 1), 1);
        CHECK.due("one alone, lower", x.hang(1, 7, 0, 1), 1);
        CHECK.due("mean of one, upper", x.hang(1, 7, 1, 0), 0);
        CHECK.due("mean of one, lower", x.hang(1, 7, 1, 1), 1);
        CHECK.due("mean of four, upper", x.hang(4, 7, 1, 0), 21);
        CHECK.due("mean of four, lower", x.hang(4, 7, 1, 1), 5);
        CHECK.due("mean of five, sure", x.hang(5, 10, 1, 0), 10);
        long refused = SwornLane.GONE + SwornLane.OUTSIDE;
        CHECK.due("hang(0, 0, 0, 0)", x.hang(0, 0, 0, 0), refused);
        CHECK.due("hang(6, 0, 0, 0)", x.hang(6, 0, 0, 0), refused);
        CHECK.due("hang(1, -1, 0, 0)", x.hang(1, -1, 0, 0), refused);
        CHECK.due("hang(1, 11, 0, 0)", x.hang(1, 11, 0, 0), refused);
        CHECK.due("hang(1, 0, -1, 0)", x.hang(1, 0, -1, 0), refused);
        CHECK.due("hang(1, 0, 2, 0)", x.hang(1, 0, 2, 0), refused);
        CHECK.due("hang(1, 0, 0, -1)", x.hang(1, 0, 0, -1), refused);
        CHECK.due("hang(1, 0, 0, 2)", x.hang(1, 0, 0, 2), refused);
    }

    private static void year() {
        SwornLane x = new SwornLane();
        // 0 becomes 74: draw 2, y 9: thing 1 on corner 1. 74 becomes 5624: draw 0, y 703: a way of 7 and 7.
        CHECK.due("year(0, 1, 0)", x.year(0, 1, 0), 0);
        CHECK.due("year(0, 2, 2), no way of one corner", x.year(0, 2, 2), 0);
        // 3 becomes 299: draw 3, y 37: person 1 goes over.
        CHECK.due("year(3, 1, 0)", x.year(3, 1, 0), 2);
        x.pole(false);
        CHECK.due("year(3, 1, 0), the pole down", x.year(3, 1, 0), 0);
        x.pole(true);
        String before = Check.all(x);
        x.year(5, 99, 0);
        CHECK.so("nothing is done in fact", before.equals(Check.all(x)));
        CHECK.due("year(-1, 1, 0)", x.year(-1, 1, 0), SwornLane.OUTSIDE);
        CHECK.due("year(10000, 1, 0)", x.year(10000, 1, 0), SwornLane.OUTSIDE);
        CHECK.due("year(0, 0, 0)", x.year(0, 0, 0), SwornLane.OUTSIDE);
        CHECK.due("year(0, 100, 0)", x.year(0, 100, 0), SwornLane.OUTSIDE);
        CHECK.due("year(0, 1, -1)", x.year(0, 1, -1), SwornLane.OUTSIDE);
        CHECK.due("year(0, 1, 3)", x.year(0, 1, 3), SwornLane.OUTSIDE);
    }

    /** One draw for each kind of act, found by its seed, so that each kind is seen by itself. */
    private static void yearAtItsEdges() {
        for (int seed = 0; seed <= 9999; seed++) {
            int x = (75 * seed + 74) % 65537;
            int y = x / 8;
            SwornLane lane = new SwornLane();
            int person = y % 6;
            int want = 0;
            int what = 0;
            switch (x % 8) {
                case 0:
                    what = 2;
                    want = y % 8 != y / 8 % 8 ? 1 : 0;
                    break;
                case 1:
                    what = 2;
                    if (y % 8 != y / 8 % 8) {
                        lane.way(y % 8, y / 8 % 8, true);
                    }
                    want = 0;
                    break;
                case 3:
                    want = 1 << person;
                    break;
                case 6:
                    lane.person(person, 0, 0);
                    what = y / 6 % 4 != 0 ? 0 : 1;
                    want = what;
                    break;
                case 7:
                    lane.person(3, 5, 8);
                    what = 1;
                    want = y % 4 != 0 ? 1 : 0;
                    break;
                default:
                    break;
            }
            CHECK.due("year(" + seed + ", 1, " + what + ")", lane.year(seed, 1, what), want);
        }
    }
}
