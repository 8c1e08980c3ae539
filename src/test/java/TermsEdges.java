/** The edges that "Terms" names for all calls: which refusal is told first, and that refused calls change nothing. */
final class TermsEdges {
    private static final String ORDER = "Calls that are refused answer, the first of these that fits: "
        + "UNKNOWN -1 (there is no such CORNER, THING, PERSON), OUTSIDE -2 (another number is not as told), "
        + "NO -5 (as told), STATE -3 (as told), FULL -4";

    private TermsEdges() {
    }

    static void run(Edges edges) {
        unknownBeforeAll(edges);
        outsideBeforeTheRest(edges);
        noBeforeState(edges);
        changeNothing(edges);
    }

    private static void unknownBeforeAll(Edges edges) {
        edges.run(0, ORDER, "way(8, 8, true) UNKNOWN", "way(-1, -1, false) UNKNOWN", "way(7, 7, true) OUTSIDE",
            "person(6, 0, 10) UNKNOWN", "person(0, 8, 10) UNKNOWN", "person(6, -1, 1) UNKNOWN", "person(5, 7, 10) OUTSIDE",
            "person(5, -1, 1) OUTSIDE", "cut(8, 8, 0) UNKNOWN", "cut(0, 8, 2) UNKNOWN", "cut(7, 7, 2) OUTSIDE",
            "walk(8, 2) UNKNOWN", "walk(7, 2) OUTSIDE");
        edges.run(0, ORDER, "pad: A)A", "behind(6, 4) UNKNOWN", "behind(5, 4) OUTSIDE", "behind(5, 3) NO",
            "lies(8, 2) UNKNOWN", "lies(7, 2) OUTSIDE", "lies(7, 1) NO");
    }

    private static void outsideBeforeTheRest(Edges edges) {
        edges.run(0, ORDER, "pad: A)", "judge(3) OUTSIDE", "judge(2) STATE", "there(5) OUTSIDE", "there(4) STATE",
            "first(2) OUTSIDE", "first(1) STATE", "say: A", "judge(3) OUTSIDE", "judge(2) NO", "there(5) OUTSIDE",
            "there(4) NO", "first(2) OUTSIDE", "first(1) NO");
        edges.run(0, ORDER, "say(112) 1..60", "say(127) OUTSIDE", "say(126) FULL", "rule(0, 0, 0) 1..12",
            "rule(0, 0, 10) OUTSIDE", "rule(0, 0, 9) FULL", "swore(0, 0, 0, true) 1..8", "swore(0, 0, 5, true) OUTSIDE",
            "swore(0, 0, 4, true) FULL", "restore(2) OUTSIDE", "restore(1) STATE");
        // That nothing fits is an answer, no refusal: a number that is not as told comes before it.
        edges.run(0, ORDER, "swore(0, 0, 0, false) 1", "ask(2) OUTSIDE", "ask(1) NONE", "least(10, 0) OUTSIDE",
            "least(9, 2) OUTSIDE", "least(9, 1) NONE");
    }

    private static void noBeforeState(Edges edges) {
        edges.run(0, ORDER, "pad: A)", "judge(2) STATE", "behind(0, 0) STATE", "lies(0, 0) STATE", "there(0) STATE",
            "first(0) STATE", "done() STATE", "say: q", "judge(2) NO", "behind(0, 0) NO", "lies(0, 0) NO", "there(0) NO",
            "first(0) NO", "done() NO");
    }

    private static void changeNothing(Edges edges) {
        edges.run(0, "They change nothing (a sign that is said changes what fault() tells).", "fault() NONE",
            "say(32) OUTSIDE", "fault() NONE", "say(71) 1", "fault() 0", "say(127) OUTSIDE", "fault() 0");
        String[] lived = {
            "do: wabwbct0bt1at2aA(A$1.B(C(B!p", "rule(0, 1, 2) 1", "rule(2, 2, 3) 2", "swore(0, 0, 1, true) 1",
            "swore(1, 2, 3, false) 2", "image(0) 1", "way(5, 6, true) 3", "thing(3, 7) NONE", "rule(9, 9, 8) 3",
            "say: A$2w"};
        edges.run(0, "They change nothing", CornersEdges.rows(lived, "way(8, 0, true) UNKNOWN", "way(0, 0, false) OUTSIDE",
            "thing(8, 0) UNKNOWN", "thing(1, 8) UNKNOWN", "person(6, 0, 0) UNKNOWN", "person(0, 8, 0) UNKNOWN",
            "person(0, 3, 10) OUTSIDE", "person(0, -1, 1) OUTSIDE", "say(127) OUTSIDE", "judge(0) NO", "judge(3) OUTSIDE",
            "behind(0, 0) NO", "behind(6, 0) UNKNOWN", "lies(0, 0) NO", "there(0) NO", "first(0) NO", "done() NO",
            "join(8, 0) UNKNOWN", "cut(0, 0, 0) OUTSIDE", "rule(0, 0, 10) OUTSIDE", "close(1024) OUTSIDE",
            "least(10, 0) OUTSIDE", "swore(0, 0, 5, true) OUTSIDE", "ask(2) OUTSIDE", "walk(0, 2) OUTSIDE",
            "hang(6, 0, 0, 0) GONE+OUTSIDE", "year(0, 100, 0) OUTSIDE", "image(2) OUTSIDE", "restore(2) OUTSIDE",
            "restore(1) STATE", "told(70) OUTSIDE"));
    }
}
