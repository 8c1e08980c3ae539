/** Promises 28 to 30: image, restore, told. */
public final class ImagesTest {
    private static final Check CHECK = new Check();

    public static void main(String[] args) {
        keptAndRestored();
        twoImages();
        refused();
        toldOfEach();
        toldOutside();
        CHECK.end();
    }

    private static SwornLane lived() {
        SwornLane x = new SwornLane();
        Check.act(x, "wabwbct0bt1ct2aA(A$2Ab.B(B!p.");
        x.rule(0, 1, 2);
        x.rule(2, 2, 3);
        x.swore(0, 0, 1, true);
        x.swore(1, 2, 3, false);
        return x;
    }

    private static void spoil(SwornLane x) {
        x.wipe();
        x.way(0, 1, false);
        x.way(6, 7, true);
        x.thing(0, -1);
        x.thing(2, 7);
        x.person(0, 7, 9);
        x.person(1, -1, 0);
        x.person(5, 2, 3);
        x.pole(true);
        Check.act(x, "...");
        x.unrule();
        x.rule(5, 5, 6);
        x.forget();
        x.swore(4, 1, 4, false);
    }

    private static void keptAndRestored() {
        SwornLane x = lived();
        String before = Check.all(x);
        int fits = x.liars(-1);
        CHECK.due("image(1)", x.image(1), 1);
        CHECK.so("keeping changes nothing", before.equals(Check.all(x)));
        spoil(x);
        CHECK.so("much is changed", !before.equals(Check.all(x)));
        CHECK.due("restore(1)", x.restore(1), 1);
        CHECK.so("all is as it was", before.equals(Check.all(x)));
        CHECK.due("rules too", x.close(3), 15);
        CHECK.due("sights too", x.liars(-1), fits);
        CHECK.due("what he carries too", x.behind(0, 3), 4);
        CHECK.due("who sits too", x.there(2), 2);
        spoil(x);
        CHECK.due("restore(1) again", x.restore(1), 1);
        CHECK.so("all is as it was again", before.equals(Check.all(x)));
        Check.say(x, "ppA");
        CHECK.due("restore(1) under signs", x.restore(1), 1);
        CHECK.due("the pad stays", x.told(0), 3);
        CHECK.due("with its fault", x.fault(), 3);
        x.image(0);
        x.wipe();
        x.restore(0);
        CHECK.due("the pad is not kept", x.told(0), 0);
    }

    private static void twoImages() {
        SwornLane x = lived();
        String first = Check.all(x);
        x.image(0);
        spoil(x);
        String second = Check.all(x);
        x.image(1);
        x.restore(0);
        CHECK.so("the first", first.equals(Check.all(x)));
        x.restore(1);
        CHECK.so("the second", second.equals(Check.all(x)));
        x.image(0);
        x.restore(0);
        CHECK.so("an image is kept anew", second.equals(Check.all(x)));
    }

    private static void refused() {
        SwornLane x = lived();
        CHECK.due("image(-1)", x.image(-1), SwornLane.OUTSIDE);
        CHECK.due("image(2)", x.image(2), SwornLane.OUTSIDE);
        CHECK.due("restore(-1)", x.restore(-1), SwornLane.OUTSIDE);
        CHECK.due("restore(2)", x.restore(2), SwornLane.OUTSIDE);
        x.image(0);
        String before = Check.all(x);
        CHECK.due("restore(1) of what was not kept", x.restore(1), SwornLane.STATE);
        CHECK.so("it changes nothing", before.equals(Check.all(x)));
    }

    private static void toldOfEach() {
        SwornLane x = lived();
        Check.say(x, "wgh.");
        CHECK.due("told(0)", x.told(0), 4);
        CHECK.due("told(1)", x.told(1), 2);
        CHECK.due("told(2)", x.told(2), 0);
        CHECK.due("told(3)", x.told(3), 2);
        CHECK.due("told(4)", x.told(4), 2);
        CHECK.due("told(5)", x.told(5), 2);
        CHECK.due("told(10)", x.told(10), 1);
        CHECK.due("told(11)", x.told(11), 0);
        CHECK.due("told(15)", x.told(15), SwornLane.NONE);
        CHECK.due("told(20)", x.told(20), 2);
        CHECK.due("told(21)", x.told(21), 0);
        CHECK.due("told(30)", x.told(30), 0);
        CHECK.due("told(31)", x.told(31), 1);
        CHECK.due("told(40)", x.told(40), 1);
        CHECK.due("told(41)", x.told(41), 2);
        CHECK.due("told(42)", x.told(42), SwornLane.NONE);
        CHECK.due("told(47)", x.told(47), SwornLane.NONE);
        CHECK.due("told(50)", x.told(50), SwornLane.NONE);
        CHECK.due("told(52)", x.told(52), 0);
        CHECK.due("told(57)", x.told(57), SwornLane.NONE);
        CHECK.due("told(60)", x.told(60), 2);
        CHECK.due("told(61)", x.told(61), 5);
        CHECK.due("told(67)", x.told(67), 0);
    }

    private static void toldOutside() {
        SwornLane x = lived();
        int[] outside = {
            Integer.MIN_VALUE, -11, -10, -1, 6, 7, 8, 9, 16, 17, 18, 19, 26, 29, 36, 39,
            48, 49, 58, 59, 68, 69, 70, 71, 100, Integer.MAX_VALUE};
        for (int what : outside) {
            CHECK.due("told(" + what + ")", x.told(what), SwornLane.OUTSIDE);
        }
    }
}
