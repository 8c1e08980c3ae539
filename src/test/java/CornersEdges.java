/** The edges of promises 1 to 8. */
final class CornersEdges {
    private static final String DOTS = "............................................................";
    /** Every way there is, told in seven rows. */
    static final String[] ALL_WAYS = {
        "way(0, 1..7, true) 1..7", "way(1, 2..7, true) 8..13", "way(2, 3..7, true) 14..18",
        "way(3, 4..7, true) 19..22", "way(4, 5..7, true) 23..25", "way(5, 6..7, true) 26..27", "way(6, 7, true) 28"};

    private CornersEdges() {
    }

    static void run(Edges edges) {
        newObject(edges);
        way(edges);
        thing(edges);
        thingCarried(edges);
        person(edges);
        personWhoHadMore(edges);
        pole(edges);
        say(edges);
        wipe(edges);
        faultOfFirstSigns(edges);
        faultOfPairs(edges);
        faultOfDeeds(edges);
        faultOfTexts(edges);
    }

    /** Rows behind rows. */
    static String[] rows(String[] before, String... behind) {
        String[] all = new String[before.length + behind.length];
        System.arraycopy(before, 0, all, 0, before.length);
        System.arraycopy(behind, 0, all, before.length, behind.length);
        return all;
    }

    private static void newObject(Edges edges) {
        edges.run(1, "Nothing sworn, all HERE.",
            "told(0..1) 0", "told(2) 1", "told(3..5) 0", "told(10..15) NONE", "told(20..25) 0", "told(30..35) 0",
            "told(40..47) NONE", "told(50..57) NONE", "told(60..67) 0", "fault() NONE", "judge(0..1) NONE",
            "judge(2) 0", "first(0..1) NONE", "there(0..2) 0", "there(3) 1", "there(4) 0", "close(0) 0",
            "close(1023) 1023", "least(0..9, 0..1) NONE", "liars(-1) 32", "ask(0) 1", "restore(0..1) STATE",
            "wipe() 0", "unrule() 0", "forget() 0", "done() 0");
        edges.run(1, "Between two of them a WAY leads, both ways, or none (none, at first).",
            "told(1) 0", "join(0, 1..7) NONE", "way(0, 1, true) 1", "told(60) 2", "told(61) 1", "join(0, 1) 1",
            "join(1, 0) 1");
        edges.run(1, "or are nowhere (at first)", "lies(0..7, 0..1) NONE", "judged: t0a NONE NONE", "judged: t7h NONE NONE");
        edges.run(1, "PEOPLE 0 to 5 (A to F) are each HERE (at first), or THERE, on a CORNER, and are FAINT by 0 to 9 "
            + "(0 at first)", "behind(0..5, 0) NONE", "behind(0..5, 1..3) 0", "person(0..5, 7, 9) NONE",
            "behind(0..5, 0) 7", "behind(0..5, 1) 9");
        edges.run(1, "who is THERE may SIT, or does not", "do: A(B(A!", "told(30) 1", "told(31) 0", "told(32) 0");
        edges.run(1, "The POLE is up (at first), or down.", "told(2) 1", "pole(false) 1", "told(2) 0");
        edges.run(1, "It is hour 0 at first.", "told(3) 0", "there(4) 0", "do: .", "told(3) 1");
    }

    private static void way(Edges edges) {
        edges.run(2, "A WAY between two CORNERS is there, or is not: how many WAYS there are.",
            "way(0, 1, false) 0", "told(60) 0", "way(0, 1, true) 1", "way(0, 1, true) 1", "way(1, 0, true) 1",
            "told(60) 2", "told(61) 1", "way(1, 0, false) 0", "way(0, 1, false) 0", "told(60..61) 0");
        edges.run(2, "A WAY between two CORNERS is there, or is not: how many WAYS there are.",
            rows(ALL_WAYS, "way(7, 6, true) 28", "told(1) 28", "told(60) 254", "told(63) 247", "told(67) 127",
                "way(7, 6, false) 27", "told(67) 63", "way(7, 6, true) 28"));
        edges.run(2, "UNKNOWN: both", "way(0, 7, true) 1", "way(7, 0, true) 1", "way(-1|8|MIN|MAX, 7, true) UNKNOWN",
            "way(-1|8|MIN|MAX, 7, false) UNKNOWN", "way(0, -1|8|MIN|MAX, true) UNKNOWN",
            "way(0, -1|8|MIN|MAX, false) UNKNOWN", "way(32|39, 7, true) UNKNOWN", "told(60) 128", "told(67) 1");
        edges.run(2, "CORNERS 0 to 7 (a to h) are THERE.", "do: wah", "told(60) 128", "told(67) 1", "way(7, 0, false) 0",
            "way(8, 0, true) UNKNOWN", "way(-1, 7, true) UNKNOWN", "fault of: wai 2", "fault of: w` 1");
        edges.run(2, "OUTSIDE: both are one", "way(0, 0, true) OUTSIDE", "way(7, 7, true) OUTSIDE", "way(0, 7, true) 1",
            "way(0, 0, false) OUTSIDE", "way(7, 7, false) OUTSIDE", "told(60) 128", "told(67) 1");
    }

    private static void thing(Edges edges) {
        edges.run(3, "A THING lies on a CORNER (-1: nowhere)", "thing(0, -1) NONE", "thing(0, 0) NONE",
            "told(40) 0", "thing(0, 0) 0", "thing(0, 7) 0", "told(40) 7", "thing(0, -1) 7", "told(40) NONE",
            "thing(0, -1) NONE");
        edges.run(3, "on which it lay (NONE)", "thing(7, 3) NONE", "thing(7, 4) 3", "thing(7, -1) 4", "thing(7, 5) NONE",
            "told(47) 5");
        edges.run(3, "UNKNOWN: both", "thing(0, 7) NONE", "thing(7, 0) NONE", "thing(-1|8|MIN|MAX, 0) UNKNOWN",
            "thing(-1|8, -1) UNKNOWN", "thing(0, -2|8|MIN|MAX) UNKNOWN", "thing(7, -2|8) UNKNOWN", "told(40) 7",
            "told(47) 0");
        edges.run(3, "THINGS 0 to 7 each lie on a CORNER, or are carried by a PERSON, or are nowhere (at first).",
            "thing(0..7, 7) NONE", "told(40..47) 7", "thing(0..7, -1) 7", "told(40..47) NONE", "told(50..57) NONE");
    }

    private static void thingCarried(Edges edges) {
        edges.run(3, "nobody carries it", "do: t2at3aA(A$2A$3", "told(52..53) 0", "thing(2, -2|8) UNKNOWN",
            "thing(2, 5) NONE", "told(42) 5", "told(52) NONE", "behind(0, 3) 8", "thing(3, -1) NONE", "told(43) NONE",
            "told(53) NONE", "behind(0, 3) 0", "judged: t3a NONE NONE", "judged: t2a 0 3");
    }

    private static void person(Edges edges) {
        edges.run(4, "A PERSON is on a CORNER (-1: HERE), FAINT", "person(0, -1, 0) NONE", "person(0, 0, 0) NONE",
            "told(10) 0", "person(0, 7, 9) 0", "told(10) 7", "told(20) 9", "person(0, 7, 1) 7", "told(20) 1",
            "person(0, -1, 0) 7", "told(10) NONE", "told(20) 0", "person(0, -1, 0) NONE");
        edges.run(4, "where he was (NONE: HERE)", "person(5, 3, 4) NONE", "person(5, 0, 0) 3", "person(5, -1, 0) 0",
            "person(5, 7, 0) NONE");
        edges.run(4, "UNKNOWN: both", "person(0, 0, 0) NONE", "person(5, 7, 9) NONE",
            "person(-1|6|7|MIN|MAX, 0, 0) UNKNOWN", "person(0, -2|8|MIN|MAX, 0) UNKNOWN", "person(-1|6, -1, 0) UNKNOWN",
            "told(10) 0", "told(15) 7");
        edges.run(4, "OUTSIDE: 0 to 9; HERE: 0.", "person(1, 3, 0) NONE", "person(1, 3, 9) 3",
            "person(1, 4, -1|10|MIN|MAX) OUTSIDE", "told(11) 3", "told(21) 9", "person(1, -1, -1|1|9|10|MIN|MAX) OUTSIDE",
            "told(11) 3", "person(1, -1, 0) 3", "person(1, -1, 1) OUTSIDE", "person(1, 0, 1) NONE");
    }

    private static void personWhoHadMore(Edges edges) {
        edges.run(4, "he does not SIT", "do: B(B!", "told(31) 1", "person(1, 0, 10) OUTSIDE", "person(1, -1, 1) OUTSIDE",
            "person(1, 8, 0) UNKNOWN", "person(1, 0, 0) 0", "told(31) 0", "do: B!", "person(1, -1, 0) 0", "told(31) 0",
            "do: B(", "told(31) 0");
        edges.run(4, "he does not SIT", "person(1, 0, 9) NONE", "told(31) 0", "judged: B) NONE NONE", "pad:  ",
            "there(2) 0");
        edges.run(4, "he carries nothing (that is nowhere)", "do: t3at4aB(B$3C(C$4", "told(53) 1", "told(54) 2",
            "person(1, 0, 10) OUTSIDE", "person(1, 0, 0) 0", "told(43) NONE", "told(53) NONE", "told(54) 2",
            "person(2, -1, 0) 0", "told(44) NONE", "told(54) NONE", "person(2, 0, 0) NONE", "behind(2, 3) 0",
            "judged: t3at4h NONE NONE");
    }

    private static void pole(Edges edges) {
        edges.run(5, "The POLE is up, or down: 1 if it was up, 0 if it was down.", "pole(true) 1", "told(2) 1",
            "pole(false) 1", "told(2) 0", "pole(false) 0", "told(2) 0", "pole(true) 0", "told(2) 1", "pole(true) 1");
        edges.run(5, "The POLE is up, or down", "pole(false) 1", "judged: A( 0 6", "pole(true) 0", "judged: A( NONE NONE",
            "do: p", "pole(false) 0");
    }

    private static void say(Edges edges) {
        edges.run(6, "A sign more: how many. OUTSIDE; FULL.", "say(33) 1", "say(126) 2", "say(32|127|0|-1|MIN|MAX) OUTSIDE",
            "say(289|382) OUTSIDE", "told(0) 2");
        edges.run(6, "SESSIONS are a text on a PAD of up to 60 signs (codes 33 to 126) of ACTS", "say(112) 1..59",
            "told(0) 59", "say(46) 60", "told(0) 60", "say(112) FULL", "say(33) FULL", "say(126) FULL", "fault() NONE",
            "there(3) 0", "there(4) 1");
        edges.run(6, "A sign more: how many. OUTSIDE; FULL.", "say(112) 1..60", "say(32) OUTSIDE", "say(127) OUTSIDE",
            "say(112) FULL", "wipe() 60", "say(112) 1", "told(0) 1");
        edges.run(6, "A sign more: how many. OUTSIDE; FULL.", "say(112) 1..60", "done() 60", "say(112) 1..2");
    }

    private static void wipe(Edges edges) {
        edges.run(7, "Signs go: how many there were.", "wipe() 0", "say(71) 1", "fault() 0", "wipe() 1", "told(0) 0",
            "fault() NONE", "wipe() 0", "say(112) 1..60", "wipe() 60", "wipe() 0", "told(2) 1", "done() 0");
        edges.run(7, "Signs go: how many there were.", "do: wabt1bA(.", "say: wcdB(", "wipe() 5", "done() 0", "told(1) 1",
            "told(41) 1", "told(10) 0", "told(11) NONE", "told(3) 1");
        // Signs that went can not end what is begun anew.
        edges.run(7, "Signs go: how many there were.", "say: wab", "wipe() 3", "say: wa", "fault() 2", "say: h",
            "fault() NONE", "done() 1", "told(60) 128");
    }

    private static void faultOfFirstSigns(Edges edges) {
        edges.run(8, "THE FAULT; NONE.", "fault() NONE", "fault of: p NONE", "fault of: o 0", "fault of: q 0",
            "fault of: . NONE", "fault of: - 0", "fault of: / 0", "fault of: @ 0", "fault of: A 1", "fault of: F 1",
            "fault of: G 0", "fault of: s 0", "fault of: t 1", "fault of: u 0", "fault of: v 0", "fault of: w 1",
            "fault of: x 1", "fault of: y 0", "fault of: a 0", "fault of: h 0", "fault of: 0 0", "fault of: 7 0",
            "fault of: ( 0", "fault of: ) 0", "fault of: ! 0", "fault of: $ 0", "fault of: ~ 0", "fault of: W 0",
            "fault of: P 0");
    }

    private static void faultOfPairs(Edges edges) {
        edges.run(8, "w and two CORNERS' letters", "fault of: w` 1", "fault of: wa 2", "fault of: wh 2", "fault of: wi 1",
            "fault of: wA 1", "fault of: w0 1", "fault of: wa` 2", "fault of: waa NONE", "fault of: wah NONE",
            "fault of: wai 2", "fault of: whh NONE", "fault of: waA 2");
        edges.run(8, "x and two CORNERS' letters", "fault of: x` 1", "fault of: xa 2", "fault of: xh 2", "fault of: xi 1",
            "fault of: xa` 2", "fault of: xaa NONE", "fault of: xah NONE", "fault of: xai 2", "fault of: xx 1");
        edges.run(8, "t, a figure 0 to 7 and a CORNER's letter", "fault of: t/ 1", "fault of: t0 2", "fault of: t7 2",
            "fault of: t8 1", "fault of: ta 1", "fault of: t0` 2", "fault of: t0a NONE", "fault of: t7h NONE",
            "fault of: t7i 2", "fault of: t77 2");
        edges.run(8, "p (the POLE goes up, or down)", "fault of: p NONE", "fault of: pp NONE", "fault of: pa 1",
            "fault of: p( 1");
    }

    private static void faultOfDeeds(Edges edges) {
        edges.run(8, "a PERSON's letter and: ( (", "fault of: A' 1", "fault of: A( NONE", "fault of: A) NONE",
            "fault of: A* 1", "fault of: F( NONE", "fault of: F) NONE", "fault of: G( 0", "fault of: @( 0");
        edges.run(8, "a CORNER's letter (he walks there)", "fault of: A` 1", "fault of: Aa NONE", "fault of: Ah NONE",
            "fault of: Ai 1", "fault of: AA 1", "fault of: Aw 1", "fault of: A0 1");
        edges.run(8, "$ and a figure 0 to 7 (he takes up that THING)", "fault of: A# 1", "fault of: A$ 2",
            "fault of: A% 1", "fault of: A$/ 2", "fault of: A$0 NONE", "fault of: A$7 NONE", "fault of: A$8 2",
            "fault of: A$a 2", "fault of: A$$ 2");
        edges.run(8, "or ! (he SITS down)", "fault of: A! NONE", "fault of: F! NONE", "fault of: A\" 1", "fault of: A. 1",
            "fault of: A!! 2");
    }

    private static void faultOfTexts(Edges edges) {
        String sentence = "THE FAULT: the place (from 0 on) of the first sign that can not stand there, "
            + "or the number of signs, if more must come.";
        edges.run(8, sentence, "fault of: wabq 3", "fault of: wabqiA 3", "fault of: wiG 1", "fault of: A(A 3",
            "fault of: A(A) NONE", "fault of: p.p.w 5", "fault of: wab. NONE");
        // Acts that can not be are no fault of the text.
        edges.run(8, sentence, "fault of: wccxddA)AhA$7A! NONE", "judge(0) 0");
        String most = DOTS.substring(0, 57);
        edges.run(8, sentence, "pad: " + most, "say: wab", "fault() NONE", "done() 58");
        edges.run(8, sentence, "pad: " + most, "say: .wa", "fault() 60", "say(98) FULL", "fault() 60", "done() NO");
        edges.run(8, sentence, "pad: " + most, "say: .wi", "fault() 59", "say(98) FULL", "fault() 59");
        // The last sign of the pad begins an act, after as many acts as there can be.
        String allButOne = DOTS.substring(0, 59);
        edges.run(8, sentence, "pad: " + allButOne, "say: a", "fault() 59", "done() NO");
        edges.run(8, sentence, "pad: " + allButOne, "say: A", "fault() 60", "done() NO");
        edges.run(8, sentence, "pad: " + allButOne, "say: p", "fault() NONE", "done() 60");
        edges.run(8, sentence, "pad: " + DOTS, "fault() NONE", "say(46) FULL", "fault() NONE");
    }
}
