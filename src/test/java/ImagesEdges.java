/** The edges of promises 28 to 30. */
final class ImagesEdges {
    private static final String[] LIVED = {
        "do: wabt0bt1aA(A$1.B(B!p", "rule(0, 1, 2) 1", "swore(0, 0, 1, true) 1"};

    private ImagesEdges() {
    }

    static void run(Edges edges) {
        image(edges);
        restore(edges);
        restoredAll(edges);
        told(edges);
        toldOfEach(edges);
    }

    private static void image(Edges edges) {
        edges.run(28, "All but the PAD is kept in an IMAGE (0, 1): 1. OUTSIDE.", "image(0) 1", "image(1) 1",
            "image(-1|2|MIN|MAX) OUTSIDE", "way(0, 1, true) 1", "image(-1|2) OUTSIDE", "restore(0) 1", "told(1) 0");
        edges.run(28, "All but the PAD is kept in an IMAGE (0, 1): 1.", "say: wab", "image(0) 1", "told(0) 3", "wipe() 3",
            "restore(0) 1", "told(0) 0", "say: pq", "restore(0) 1", "told(0) 2", "fault() 1");
        // One kept anew is the later one, and the other stays.
        edges.run(28, "All but the PAD is kept in an IMAGE (0, 1): 1.", "image(0) 1", "way(0, 1, true) 1", "image(1) 1",
            "way(0, 2, true) 2", "image(0) 1", "way(0, 3, true) 3", "restore(1) 1", "told(1) 1", "restore(0) 1",
            "told(1) 2", "image(1) 1", "restore(1) 1", "told(1) 2");
    }

    private static void restore(Edges edges) {
        edges.run(29, "OUTSIDE; STATE: it was not.", "restore(0..1) STATE", "restore(-1|2|MIN|MAX) OUTSIDE",
            "way(0, 1, true) 1", "image(0) 1", "restore(1) STATE", "restore(0) 1", "restore(-1|2) OUTSIDE",
            "restore(1) STATE", "told(1) 1");
        edges.run(29, "OUTSIDE; STATE: it was not.", "image(1) 1", "restore(0) STATE", "restore(1) 1", "image(0) 1",
            "restore(0) 1");
        edges.run(29, "OUTSIDE; STATE: it was not.", "image(-1|2) OUTSIDE", "restore(0..1) STATE");
        // A restored one is kept still: later changes do not reach it.
        edges.run(29, "It is as it was when it was kept: 1.", "image(0) 1", "way(0, 1, true) 1", "restore(0) 1", "told(1) 0",
            "way(0, 1, true) 1", "thing(0, 0) NONE", "restore(0) 1", "told(1) 0", "told(40) NONE", "restore(0) 1");
        // Images are not among what is kept: an older one brings back no state without the newer.
        edges.run(29, "It is as it was when it was kept: 1.", "image(0) 1", "way(0, 1, true) 1", "image(1) 1",
            "restore(0) 1", "told(1) 0", "restore(1) 1", "told(1) 1");
    }

    private static void restoredAll(Edges edges) {
        edges.run(29, "It is as it was when it was kept: 1.", CornersEdges.rows(LIVED, "image(1) 1", "unrule() 1",
            "forget() 1", "rule(4, 4, 5) 1..2", "swore(3, 0, 3, false) 1..3", "way(0, 1, false) 0", "way(6, 7, true) 1",
            "thing(0, -1) 1", "thing(1, 7) NONE", "person(0, 7, 9) 0", "person(1, -1, 0) 0", "person(5, 2, 3) NONE",
            "pole(true) 0", "do: ...", "restore(1) 1", "told(1) 1", "told(2) 0", "told(3..5) 1", "told(10..11) 0",
            "told(12..15) NONE", "told(20) 1", "told(21..25) 0", "told(30) 0", "told(31) 1", "told(32..35) 0",
            "told(40) 1", "told(41) NONE", "told(50) NONE", "told(51) 0", "told(60) 2", "told(61) 1", "told(66..67) 0",
            "close(3) 7", "close(16) 16", "liars(-1) 16", "liars(1) 3"));
        // Full rows are kept full.
        edges.run(29, "It is as it was when it was kept: 1.", "rule(0, 0, 1) 1..12", "swore(0, 0, 1, true) 1..8",
            "image(0) 1", "unrule() 12", "forget() 8", "rule(2, 2, 3) 1", "restore(0) 1", "rule(2, 2, 3) FULL",
            "swore(0, 0, 2, true) FULL", "close(5) 7", "unrule() 12", "forget() 8");
    }

    private static void told(Edges edges) {
        edges.run(30, "0 signs, 1 WAYS, 2 the POLE, 3 the hour, 4 RULES, 5 SIGHTS", CornersEdges.rows(LIVED, "told(0) 0",
            "told(1) 1", "told(2) 0", "told(3) 1", "told(4) 1", "told(5) 1", "say: q", "told(0) 1",
            "told(6..9) OUTSIDE", "told(-1|MIN|MAX) OUTSIDE"));
        edges.run(30, "10 and a PERSON: the CORNER (NONE); 20: FAINT; 30: SITS", "person(0, 0, 0) NONE", "person(5, 7, 9) NONE",
            "told(10) 0", "told(11..14) NONE", "told(15) 7", "told(16..19) OUTSIDE", "told(20) 0", "told(25) 9",
            "told(26..29) OUTSIDE", "do: A!", "told(30) 1", "told(35) 0", "do: F!", "told(35) 1", "told(36..39) OUTSIDE",
            "told(9) OUTSIDE");
        edges.run(30, "40 and a THING: the CORNER (NONE); 50: who carries it (NONE)", "thing(0|7, 0) NONE", "told(40) 0",
            "told(47) 0", "told(41..46) NONE", "told(50) NONE", "told(48..49) OUTSIDE", "person(5, 0, 0) NONE", "do: F$7",
            "told(47) NONE", "told(57) 5", "told(50) NONE", "told(58..59) OUTSIDE");
        edges.run(30, "60 and a CORNER: to which WAYS lead (bits). OUTSIDE.", "told(60..67) 0", "way(0, 7, true) 1",
            "told(60) 128", "told(67) 1", "told(61..66) 0", "told(68..71) OUTSIDE", "told(100|160|-60|MAX) OUTSIDE");
    }

    private static void toldOfEach(Edges edges) {
        // What the pad tells is not so before it is done.
        edges.run(30, "0 signs, 1 WAYS, 2 the POLE, 3 the hour, 4 RULES, 5 SIGHTS", "say: wabA(A!p.t0a", "told(0) 12",
            "told(1) 0", "told(2) 1", "told(3) 0", "told(10) NONE", "told(30) 0", "told(40) NONE", "told(60) 0",
            "done() 6", "told(0) 0", "told(1) 1", "told(2) 0", "told(3) 1", "told(10) 0", "told(30) 1", "told(40) 0",
            "told(60) 2");
        edges.run(30, "0 signs, 1 WAYS, 2 the POLE, 3 the hour, 4 RULES, 5 SIGHTS", "say(46) 1..60", "told(0) 60",
            "done() 60", "rule(9, 9, 9) 1..12", "told(4) 12", "swore(4, 2, 5, true) 1..8", "told(5) 8", "told(3) 60");
    }
}
