/** Promises 9 to 14: judge, behind, lies, there, first, done. */
public final class SessionsTest {
    private static final Check CHECK = new Check();

    public static void main(String[] args) {
        reasonsOfWays();
        reasonsOfThingsAndHours();
        reasonsOfPeople();
        leastReasons();
        judged();
        behind();
        hours();
        lies();
        there();
        first();
        done();
        refusalsInTheirOrder();
        CHECK.end();
    }

    private static void because(SwornLane x, String text, int act, int why) {
        Check.sayAnew(x, text);
        CHECK.due("judge(0) of " + text, x.judge(0), act);
        CHECK.due("judge(1) of " + text, x.judge(1), why);
    }

    private static void canBe(SwornLane x, String text) {
        because(x, text, SwornLane.NONE, SwornLane.NONE);
    }

    private static void reasonsOfWays() {
        SwornLane x = new SwornLane();
        because(x, "waa", 0, 1);
        because(x, "xhh", 0, 1);
        because(x, "wabwba", 1, 2);
        because(x, "xab", 0, 2);
        canBe(x, "wabxba");
        canBe(x, "wabxabwba");
    }

    private static void reasonsOfThingsAndHours() {
        SwornLane x = new SwornLane();
        because(x, "t0at0b", 1, 3);
        because(x, "t0aA(A$0t0a", 3, 3);
        canBe(x, "t0aA(A$0A)t0h");
        for (int i = 0; i < 3; i++) {
            Check.act(x, "..............................");
        }
        canBe(x, ".........");
        because(x, "..........", 9, 10);
        because(x, "p..........", 10, 10);
    }

    private static void reasonsOfPeople() {
        SwornLane x = new SwornLane();
        because(x, "A(A(", 1, 4);
        because(x, "A)", 0, 4);
        because(x, "Aa", 0, 4);
        because(x, "A$0", 0, 4);
        because(x, "A!", 0, 4);
        because(x, "A(A!A(", 2, 4);
        because(x, "A(A!A)", 2, 5);
        because(x, "A(A!A!", 2, 5);
        because(x, "wabA(A!Ab", 3, 5);
        because(x, "t0aA(A!A$0", 3, 5);
        because(x, "pA(", 1, 6);
        because(x, "A(pA)", 2, 6);
        canBe(x, "ppA(");
        because(x, "wabA(AbA)", 3, 7);
        canBe(x, "wabA(AbAaA)A(");
        because(x, "A(Ab", 1, 8);
        because(x, "A(Aa", 1, 8);
        because(x, "wabwbcA(Ac", 3, 8);
        because(x, "t0bA(A$0", 2, 9);
        because(x, "A(A$0", 1, 9);
        because(x, "t0aA(B(A$0B$0", 4, 9);
        because(x, "t0aA(A$0A$0", 3, 9);
        canBe(x, "t0bwabA(AbA$0Aa");
    }

    /** Where several reasons hold at once, the least is told. */
    private static void leastReasons() {
        SwornLane x = new SwornLane();
        x.pole(false);
        x.person(0, 3, 0);
        because(x, "A(", 0, 4);
        because(x, "B)", 0, 4);
        because(x, "A)", 0, 6);
        because(x, "A!A)", 1, 5);
        because(x, "A!Ah", 1, 5);
        because(x, "A!A$7", 1, 5);
        because(x, "B(", 0, 6);
        canBe(x, "pB(");
        because(x, "pA)", 1, 7);
    }

    private static void judged() {
        SwornLane x = new SwornLane();
        CHECK.due("judge(0) of nothing", x.judge(0), SwornLane.NONE);
        CHECK.due("judge(1) of nothing", x.judge(1), SwornLane.NONE);
        CHECK.due("judge(2) of nothing", x.judge(2), 0);
        Check.say(x, "A(B(C(B!A!");
        CHECK.due("two sat down", x.judge(2), 2);
        CHECK.due("done()", x.done(), 5);
        CHECK.due("who sat before does not count", x.judge(2), 0);
        Check.say(x, "C!");
        CHECK.due("one sat down", x.judge(2), 1);
        Check.say(x, "C!");
        CHECK.due("judge(2) where an act can not be", x.judge(2), SwornLane.STATE);
        CHECK.due("judge(0) there", x.judge(0), 1);
        CHECK.due("judge(1) there", x.judge(1), 5);
        Check.say(x, "C");
        for (int what = 0; what <= 2; what++) {
            CHECK.due("judge with a fault", x.judge(what), SwornLane.NO);
        }
        CHECK.due("judge(-1)", x.judge(-1), SwornLane.OUTSIDE);
        CHECK.due("judge(3)", x.judge(3), SwornLane.OUTSIDE);
    }

    private static void behind() {
        SwornLane x = Check.saying("wabwbct0at1bA(A$0AbA$1Ac..B(");
        CHECK.due("behind(0, 0)", x.behind(0, 0), 2);
        CHECK.due("behind(0, 1)", x.behind(0, 1), 2);
        CHECK.due("behind(0, 2)", x.behind(0, 2), 0);
        CHECK.due("behind(0, 3)", x.behind(0, 3), 3);
        CHECK.due("behind(1, 0)", x.behind(1, 0), 0);
        CHECK.due("behind(1, 1)", x.behind(1, 1), 0);
        CHECK.due("behind(2, 0)", x.behind(2, 0), SwornLane.NONE);
        CHECK.due("behind(2, 3)", x.behind(2, 3), 0);
        CHECK.due("nothing is so in fact", x.told(10), SwornLane.NONE);
        Check.sayAnew(x, "t7aA(A$7.A)A(");
        CHECK.due("back and over: on corner 0", x.behind(0, 0), 0);
        CHECK.due("back and over: not faint", x.behind(0, 1), 0);
        CHECK.due("back and over: empty hands", x.behind(0, 3), 0);
        CHECK.due("what he had is nowhere", x.lies(7, 0), SwornLane.NONE);
        CHECK.due("what he had nobody has", x.lies(7, 1), SwornLane.NONE);
        Check.sayAnew(x, "A(A!.");
        CHECK.due("behind(0, 2) of one who sat down", x.behind(0, 2), 1);
        CHECK.due("who sits gets no fainter", x.behind(0, 1), 0);
    }

    private static void hours() {
        SwornLane x = new SwornLane();
        x.person(0, 1, 7);
        x.person(1, 2, 9);
        x.person(2, 0, 0);
        Check.say(x, ".");
        CHECK.due("A is faint by 8", x.behind(0, 1), 8);
        CHECK.due("A does not sit", x.behind(0, 2), 0);
        CHECK.due("B stays faint by 9", x.behind(1, 1), 9);
        CHECK.due("B sits", x.behind(1, 2), 1);
        CHECK.due("C is faint by 1", x.behind(2, 1), 1);
        CHECK.due("D, here, is not faint", x.behind(3, 1), 0);
        CHECK.due("one sat down", x.judge(2), 1);
        Check.say(x, ".");
        CHECK.due("A is faint by 9", x.behind(0, 1), 9);
        CHECK.due("A sits", x.behind(0, 2), 1);
        CHECK.due("two sat down", x.judge(2), 2);
        Check.say(x, "A)");
        CHECK.due("he sits, and can not come back", x.judge(1), 5);
        Check.sayAnew(x, "D(.........");
        CHECK.due("nine hours make one sit", x.behind(3, 2), 1);
        CHECK.due("four sat down in all", x.judge(2), 4);
        CHECK.due("nine hours", x.there(4), 9);
    }

    private static void lies() {
        SwornLane x = Check.saying("t0ht1aF(F$1");
        CHECK.due("lies(0, 0)", x.lies(0, 0), 7);
        CHECK.due("lies(0, 1)", x.lies(0, 1), SwornLane.NONE);
        CHECK.due("lies(1, 0)", x.lies(1, 0), SwornLane.NONE);
        CHECK.due("lies(1, 1)", x.lies(1, 1), 5);
        CHECK.due("lies(2, 0)", x.lies(2, 0), SwornLane.NONE);
        CHECK.due("lies(2, 1)", x.lies(2, 1), SwornLane.NONE);
    }

    private static void there() {
        SwornLane x = new SwornLane();
        x.way(4, 5, true);
        Check.say(x, "wabwacxabA(D(F(F!p...");
        CHECK.due("there(0)", x.there(0), 2);
        CHECK.due("there(1)", x.there(1), 0b101001);
        CHECK.due("there(2)", x.there(2), 0b100000);
        CHECK.due("there(3)", x.there(3), 0);
        CHECK.due("there(4)", x.there(4), 3);
        CHECK.due("told(1) is as it was", x.told(1), 1);
        CHECK.due("told(2) is as it was", x.told(2), 1);
        CHECK.due("told(3) is as it was", x.told(3), 0);
    }

    private static void first() {
        SwornLane x = new SwornLane();
        CHECK.due("first(0) of nothing", x.first(0), SwornLane.NONE);
        CHECK.due("first(1) of nothing", x.first(1), SwornLane.NONE);
        x.person(4, 3, 8);
        x.person(2, 3, 8);
        Check.say(x, "p.A");
        CHECK.due("first(0) with a fault", x.first(0), SwornLane.NO);
        Check.sayAnew(x, "pp.");
        CHECK.due("first(0) by an hour", x.first(0), 2);
        CHECK.due("first(1), the least", x.first(1), 2);
        Check.sayAnew(x, "E!.");
        CHECK.due("first(0) by sitting down", x.first(0), 0);
        CHECK.due("first(1) by sitting down", x.first(1), 4);
        CHECK.due("done()", x.done(), 2);
        Check.say(x, ".");
        CHECK.due("who sat before is not first", x.first(0), SwornLane.NONE);
        CHECK.due("nor told", x.first(1), SwornLane.NONE);
    }

    private static void done() {
        SwornLane x = Check.saying("wabt0bA(AbA$0.p");
        CHECK.due("done()", x.done(), 7);
        CHECK.due("told(0)", x.told(0), 0);
        CHECK.due("told(1)", x.told(1), 1);
        CHECK.due("told(2)", x.told(2), 0);
        CHECK.due("told(3)", x.told(3), 1);
        CHECK.due("told(10)", x.told(10), 1);
        CHECK.due("told(20)", x.told(20), 1);
        CHECK.due("told(30)", x.told(30), 0);
        CHECK.due("told(40)", x.told(40), SwornLane.NONE);
        CHECK.due("told(50)", x.told(50), 0);
        CHECK.due("done() of nothing", x.done(), 0);
        Check.say(x, "wcdA");
        String before = Check.all(x);
        CHECK.due("done() with a fault", x.done(), SwornLane.NO);
        CHECK.so("it changes nothing", before.equals(Check.all(x)));
        Check.sayAnew(x, "wcdA)");
        before = Check.all(x);
        CHECK.due("done() where an act can not be", x.done(), SwornLane.STATE);
        CHECK.so("it changes nothing either", before.equals(Check.all(x)));
    }

    private static void refusalsInTheirOrder() {
        SwornLane faulty = Check.saying("A)A");
        SwornLane stuck = Check.saying("A)");
        CHECK.due("behind(6, 4)", faulty.behind(6, 4), SwornLane.UNKNOWN);
        CHECK.due("behind(-1, 0)", stuck.behind(-1, 0), SwornLane.UNKNOWN);
        CHECK.due("behind(0, 4)", faulty.behind(0, 4), SwornLane.OUTSIDE);
        CHECK.due("behind(0, -1)", stuck.behind(0, -1), SwornLane.OUTSIDE);
        CHECK.due("behind with a fault", faulty.behind(0, 0), SwornLane.NO);
        CHECK.due("behind stuck", stuck.behind(0, 0), SwornLane.STATE);
        CHECK.due("lies(8, 2)", faulty.lies(8, 2), SwornLane.UNKNOWN);
        CHECK.due("lies(-1, 0)", stuck.lies(-1, 0), SwornLane.UNKNOWN);
        CHECK.due("lies(0, 2)", faulty.lies(0, 2), SwornLane.OUTSIDE);
        CHECK.due("lies(0, -1)", stuck.lies(0, -1), SwornLane.OUTSIDE);
        CHECK.due("lies with a fault", faulty.lies(0, 0), SwornLane.NO);
        CHECK.due("lies stuck", stuck.lies(0, 1), SwornLane.STATE);
        CHECK.due("there(5)", faulty.there(5), SwornLane.OUTSIDE);
        CHECK.due("there(-1)", stuck.there(-1), SwornLane.OUTSIDE);
        CHECK.due("there with a fault", faulty.there(0), SwornLane.NO);
        CHECK.due("there stuck", stuck.there(4), SwornLane.STATE);
        CHECK.due("first(2)", faulty.first(2), SwornLane.OUTSIDE);
        CHECK.due("first(-1)", stuck.first(-1), SwornLane.OUTSIDE);
        CHECK.due("first with a fault", faulty.first(0), SwornLane.NO);
        CHECK.due("first stuck", stuck.first(1), SwornLane.STATE);
        CHECK.due("judge(3) with a fault", faulty.judge(3), SwornLane.OUTSIDE);
        CHECK.due("judge(2) with both", faulty.judge(2), SwornLane.NO);
        CHECK.due("done with both", faulty.done(), SwornLane.NO);
    }
}
