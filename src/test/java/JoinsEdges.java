/** The edges of promises 15 to 20. */
final class JoinsEdges {
    private static final String[] ROW_OF_EIGHT = {
        "way(0, 1, true) 1", "way(1, 2, true) 2", "way(2, 3, true) 3", "way(3, 4, true) 4", "way(4, 5, true) 5",
        "way(5, 6, true) 6", "way(6, 7, true) 7"};

    private JoinsEdges() {
    }

    static void run(Edges edges) {
        join(edges);
        cut(edges);
        rule(edges);
        unrule(edges);
        close(edges);
        least(edges);
    }

    private static void join(Edges edges) {
        edges.run(15, "JOIN of two CORNERS: the fewest WAYS one behind another from one to the other; NONE.",
            CornersEdges.rows(ROW_OF_EIGHT, "join(0, 0..7) 0..7", "join(7, 7) 0", "join(7, 0) 7", "way(0, 6, true) 8",
                "join(0, 7) 2", "join(0, 4) 3", "join(0, 3) 3", "way(6, 7, false) 7", "join(0, 7) NONE",
                "join(7, 0..6) NONE", "join(7, 7) 0"));
        edges.run(15, "(As things are now.)", "pad: wab", "join(0, 1) NONE", "done() 1", "join(0, 1) 1", "pad: xab",
            "join(0, 1) 1", "done() 1", "join(0, 1) NONE", "pad: q", "join(0, 0) 0");
        edges.run(15, "JOIN; NONE. UNKNOWN: both.", "way(0, 7, true) 1", "join(0, 7) 1", "join(7, 0) 1",
            "join(-1|8|MIN|MAX, 0) UNKNOWN", "join(7, -1|8|MIN|MAX) UNKNOWN", "join(-1, -1) UNKNOWN", "join(8, 8) UNKNOWN");
    }

    private static void cut(Edges edges) {
        edges.run(16, "the fewest WAYS that must be taken back so that none joins them: how many", "cut(0, 7, 0) 0",
            "way(0, 7, true) 1", "cut(0, 7, 0) 1", "cut(7, 0, 0) 1", "cut(0, 6, 0) 0");
        edges.run(16, "the fewest WAYS that must be taken back so that none joins them: how many",
            CornersEdges.rows(CornersEdges.ALL_WAYS, "cut(0, 7, 0) 7", "cut(7, 0, 0) 7", "cut(0, 7, 1) 1",
                "cut(7, 0, 1) 128", "way(0, 1, false) 27", "cut(0, 7, 0) 6", "cut(7, 0, 0) 6", "cut(7, 0, 1) 254",
                "cut(0, 7, 1) 1", "cut(2, 3, 0) 7"));
        edges.run(16, "with the first and not the second in it, all WAYS out of which are taken back: the least set (as bits) "
            + "by which they are as few", "cut(0, 7, 1) 1", "cut(7, 0, 1) 128", "cut(3, 4, 1) 8", "way(0, 1, true) 1",
            "cut(0, 7, 1) 3", "cut(0, 1, 1) 1", "cut(1, 0, 1) 2", "cut(7, 0, 1) 128");
        edges.run(16, "the least set (as bits) by which they are as few",
            CornersEdges.rows(ROW_OF_EIGHT, "cut(0, 7, 0) 1", "cut(0, 7, 1) 1", "cut(7, 0, 1) 128", "cut(1, 6, 1) 3",
                "cut(6, 1, 1) 192", "way(0, 2, true) 8", "cut(0, 7, 0) 1", "cut(0, 7, 1) 7", "cut(1, 0, 0) 2",
                "cut(1, 0, 1) 2"));
        edges.run(16, "UNKNOWN: both; OUTSIDE: both are one, what.", "cut(0, 7, 0) 0", "cut(7, 0, 1) 128",
            "cut(-1|8|MIN|MAX, 0, 0) UNKNOWN", "cut(7, -1|8|MIN|MAX, 1) UNKNOWN", "cut(8, 8, 2) UNKNOWN",
            "cut(-1, 0, -1) UNKNOWN", "cut(0, 0, 0..1) OUTSIDE", "cut(7, 7, 0..1) OUTSIDE",
            "cut(0, 7, -1|2|MIN|MAX) OUTSIDE", "cut(3, 3, 2) OUTSIDE");
    }

    private static void rule(Edges edges) {
        edges.run(17, "RULES, 12 at most: from CLAIMS i and j (0 to 9; they may be one) follows k.", "rule(0, 9, 5) 1",
            "rule(9, 0, 6) 2", "rule(3, 3, 4) 3", "rule(7, 7, 7) 4", "close(513) 609", "close(8) 24", "close(128) 128",
            "close(1) 1", "close(512) 512");
        edges.run(17, "A RULE more: how many.", "rule(0, 0, 9) 1..11", "told(4) 11", "rule(9, 9, 0) 12", "told(4) 12",
            "rule(1, 1, 2) FULL", "rule(0, 0, 9) FULL", "close(2) 2", "close(512) 513", "close(1) 513");
        edges.run(17, "OUTSIDE: each 0 to 9; FULL.", "rule(0, 0, 0) 1", "rule(9, 9, 9) 2",
            "rule(-1|10|MIN|MAX, 0, 1) OUTSIDE", "rule(0, -1|10|MIN|MAX, 1) OUTSIDE", "rule(0, 0, -1|10|MIN|MAX) OUTSIDE",
            "told(4) 2");
        edges.run(17, "OUTSIDE: each 0 to 9; FULL.", "rule(1, 2, 3) 1..12", "rule(10, 0, 0) OUTSIDE",
            "rule(0, -1, 0) OUTSIDE", "rule(0, 0, 10) OUTSIDE", "rule(0, 0, 1) FULL", "unrule() 12", "rule(0, 0, 1) 1",
            "close(1) 3", "close(6) 6");
    }

    private static void unrule(Edges edges) {
        edges.run(18, "RULES go: how many there were.", "unrule() 0", "rule(0, 0, 1) 1", "close(1) 3", "unrule() 1",
            "close(1) 1", "least(1, 0) NONE", "told(4) 0", "unrule() 0", "rule(0, 0, 2) 1..12", "unrule() 12",
            "rule(0, 0, 3) 1", "close(1) 9");
        edges.run(18, "RULES go: how many there were.", "rule(0, 0, 1) 1", "swore(0, 1, 1, true) 1", "way(0, 1, true) 1",
            "say: p", "unrule() 1", "told(5) 1", "told(1) 1", "told(0) 1");
    }

    private static void close(Edges edges) {
        edges.run(19, "CLOSED. OUTSIDE: the set, 0 to 1023.", "rule(0, 0, 9) 1", "close(0) 0", "close(1) 513",
            "close(1023) 1023", "close(1022) 1022", "close(-1|1024|MIN|MAX) OUTSIDE", "close(1025) OUTSIDE");
        // Told backwards, so that each claim is found a round later than the one before it.
        edges.run(19, "all that follow, by RULES, and by those again, and the set itself", "rule(8, 8, 9) 1",
            "rule(7, 7, 8) 2", "rule(6, 6, 7) 3", "rule(5, 5, 6) 4", "rule(4, 4, 5) 5", "rule(3, 3, 4) 6",
            "rule(2, 2, 3) 7", "rule(1, 1, 2) 8", "rule(0, 0, 1) 9", "close(1) 1023", "close(2) 1022", "close(256) 768",
            "close(512) 512", "close(0) 0");
        edges.run(19, "all that follow, by RULES, and by those again, and the set itself", "rule(0, 1, 2) 1",
            "rule(2, 9, 3) 2", "close(1) 1", "close(2) 2", "close(3) 7", "close(515) 527", "close(514) 514",
            "close(516) 524");
    }

    private static void least(Edges edges) {
        edges.run(20, "LEAST: how many (what = 0), which (1); NONE. OUTSIDE.", "rule(0, 0, 9) 1", "least(9, 0) 1",
            "least(9, 1) 1", "least(0, 0..1) NONE", "least(-1|10|MIN|MAX, 0..1) OUTSIDE", "least(9, -1|2|MIN|MAX) OUTSIDE",
            "least(0, -1|2) OUTSIDE", "unrule() 1", "least(9, 0..1) NONE");
        edges.run(20, "LEAST of k: the fewest CLAIMS other than k from which k follows", "rule(5, 5, 5) 1",
            "least(5, 0..1) NONE", "rule(5, 6, 5) 2", "least(5, 0..1) NONE", "rule(6, 7, 5) 3", "least(5, 0) 2",
            "least(5, 1) 192", "rule(7, 7, 6) 4", "least(5, 0) 1", "least(5, 1) 128");
        // What follows from k itself is no way to k.
        edges.run(20, "LEAST of k: the fewest CLAIMS other than k from which k follows", "rule(6, 6, 5) 1",
            "rule(5, 5, 4) 2", "rule(4, 4, 6) 3", "least(6, 1) 16", "least(4, 1) 32", "least(5, 1) 16");
        edges.run(20, "which, least as bits of as few; NONE", "rule(3, 4, 9) 1", "least(9, 1) 24", "rule(0, 8, 9) 2",
            "least(9, 1) 24", "rule(0, 1, 9) 3", "least(9, 1) 3", "rule(8, 8, 9) 4", "least(9, 0) 1", "least(9, 1) 256",
            "rule(2, 2, 9) 5", "least(9, 1) 4");
    }
}
