/** The edges of promises 21 to 27. */
final class LiarsEdges {
    private LiarsEdges() {
    }

    static void run(Edges edges) {
        swore(edges);
        forget(edges);
        liars(edges);
        ask(edges);
        walk(edges);
        hang(edges);
        hangAsTold(edges);
        year(edges);
        yearOfDraws(edges);
        yearOfPeople(edges);
        yearOfHours(edges);
    }

    private static void swore(Edges edges) {
        edges.run(21, "SIGHTS, 8 at most", "swore(0, 0, 1, true) 1..7", "told(5) 7", "swore(0, 0, 2, true) 8", "told(5) 8",
            "swore(0, 0, 0, false) FULL", "swore(0, 0, 1, true) FULL", "liars(-1) 8", "forget() 8",
            "swore(0, 0, 0, false) 1", "liars(-1) 0");
        edges.run(21, "OUTSIDE: x, what, y; FULL.", "swore(0, 0, 0, true) 1", "swore(4, 1, 4, false) 2",
            "swore(4, 2, 5, false) 3", "swore(-1|5|MIN|MAX, 0, 0, true) OUTSIDE", "swore(0, -1|3|MIN|MAX, 0, true) OUTSIDE",
            "swore(0, 0..1, -1|5|6|MIN|MAX, true) OUTSIDE", "swore(0, 2, -1|6|MIN|MAX, true) OUTSIDE", "told(5) 3");
        edges.run(21, "OUTSIDE: x, what, y; FULL.", "swore(1, 1, 2, true) 1..8", "swore(5, 0, 0, true) OUTSIDE",
            "swore(0, 3, 0, true) OUTSIDE", "swore(0, 1, 5, true) OUTSIDE", "swore(0, 2, 5, true) FULL", "told(5) 8");
        edges.run(21, "Five (0 to 4) each lie always, or never", "swore(0, 1, 4, true) 1", "swore(4, 1, 0, true) 2",
            "liars(-1) 16", "liars(0) 1", "swore(0, 1, 5, true) OUTSIDE", "swore(5, 1, 0, true) OUTSIDE",
            "swore(-1, 1, 0, true) OUTSIDE", "swore(0, 1, -1, true) OUTSIDE", "liars(15) 30");
        edges.run(21, "whether just y of the five lie (2; y 0 to 5)", "swore(0, 2, 0, false) 1", "liars(-1) 15",
            "liars(0) 2", "forget() 1", "swore(0, 2, 5, false) 1", "liars(-1) 17", "liars(16) 31", "liars(15) 30",
            "forget() 1", "swore(0, 2, 6, false) OUTSIDE", "swore(0, 0, 4, true) 1", "swore(0, 0, 5, true) OUTSIDE");
    }

    private static void forget(Edges edges) {
        edges.run(22, "SIGHTS go: how many there were.", "forget() 0", "swore(0, 0, 0, false) 1", "liars(-1) 0",
            "forget() 1", "liars(-1) 32", "told(5) 0", "forget() 0", "swore(0, 1, 1, true) 1..8", "forget() 8",
            "liars(-1) 32", "swore(0, 1, 1, true) 1");
        edges.run(22, "SIGHTS go: how many there were.", "rule(0, 0, 1) 1", "swore(0, 1, 1, true) 1", "way(0, 1, true) 1",
            "say: p", "forget() 1", "told(4) 1", "told(1) 1", "told(0) 1");
    }

    private static void liars(Edges edges) {
        edges.run(23, "LIARS: how many (i = -1), the i-th; NONE.", "liars(-1) 32", "liars(0..31) 0..31", "liars(32) NONE",
            "liars(33|MAX) NONE", "liars(-2|MIN) NONE");
        edges.run(23, "sets by which all SIGHTS are so (bits): how many; the i-th (rising)", "swore(0, 1, 4, true) 1",
            "liars(-1) 16", "liars(0) 1", "liars(15) 30", "liars(16) NONE", "swore(4, 1, 3, true) 2", "liars(-1) 8",
            "liars(7) 22", "liars(8) NONE", "swore(0, 0, 0, false) 3", "liars(-1) 0", "liars(0) NONE", "liars(-2) NONE");
        edges.run(23, "sets by which all SIGHTS are so (bits): how many; the i-th (rising)", "swore(0, 0, 1, true) 1",
            "swore(0, 0, 2, true) 2", "swore(0, 0, 3, true) 3", "swore(0, 0, 4, true) 4", "liars(-1) 2", "liars(0) 0",
            "liars(1) 31", "liars(2) NONE", "swore(0, 2, 1, true) 5", "liars(-1) 1", "liars(0) 31", "liars(1) NONE");
    }

    private static void ask(Edges edges) {
        edges.run(24, "ASK: what (what = 0), how many (1); NONE: nothing fits. OUTSIDE.", "ask(0) 1", "ask(1) 16",
            "ask(-1|2|MIN|MAX) OUTSIDE", "swore(0, 1, 0, true) 1", "liars(-1) 0", "ask(0..1) NONE", "ask(-1|2) OUTSIDE",
            "forget() 1", "ask(0) 1");
        // One set is left: nothing can be gained, and the least question is as good as any.
        edges.run(24, "so that, whether he says yes or no, fewest of these are left at the most: the least; how many; NONE",
            "swore(2, 2, 4, true) 1", "swore(2, 2, 0, false) 2", "liars(-1) 1", "ask(0) 0", "ask(1) 1");
        edges.run(24, "100 times x, 10 times what, and y, to ask next", "swore(1, 0, 2, true) 1", "ask(0) 1", "ask(1) 8",
            "forget() 1", "swore(3, 2, 2, true) 1", "liars(-1) 18", "ask(0) 25", "ask(1) 9", "forget() 1",
            "swore(0, 2, 2, true) 1", "ask(0) 125", "ask(1) 9", "forget() 1", "swore(1, 1, 0, true) 1",
            "swore(0, 2, 4, true) 2", "swore(1, 2, 2, true) 3", "liars(-1) 4", "ask(0) 203", "ask(1) 2");
        // No room for a further sight is no reason not to ask.
        edges.run(24, "ASK: what (what = 0), how many (1); NONE: nothing fits. OUTSIDE.", "swore(0, 0, 1, true) 1..8",
            "ask(0) 2", "ask(1) 8");
    }

    private static void walk(Edges edges) {
        edges.run(25, "WALK: whether (what = 0), where (1; NONE).", "walk(0..7, 0) 0", "walk(0..7, 1) NONE",
            "way(0, 7, true) 1", "walk(0, 0) 1", "walk(0, 1) 7", "walk(7, 0) 1", "walk(7, 1) 0", "walk(6, 0) 0",
            "walk(6, 1) NONE", "way(7, 6, true) 2", "walk(0, 0) 0", "walk(0, 1) NONE", "walk(7, 1) 0", "walk(6, 0) 0");
        edges.run(25, "where he goes first for it, the least (NONE)", "way(3, 5, true) 1", "way(3, 4, true) 2",
            "walk(3, 1) 4", "way(4, 2, true) 3", "walk(3, 1) 5", "walk(4, 1) 2", "way(5, 6, true) 4", "walk(3, 0) 0",
            "walk(3, 1) NONE");
        edges.run(25, "to a CORNER where it has not been; who can not has lost",
            CornersEdges.rows(CornersEdges.ALL_WAYS, "walk(0..7, 0) 1", "walk(0, 1) 1", "walk(7, 1) 0",
                "way(7, 0, false) 27", "way(7, 1, false) 26", "way(7, 2, false) 25", "way(7, 3, false) 24",
                "way(7, 4, false) 23", "way(7, 5, false) 22", "way(7, 6, false) 21", "walk(0..7, 0) 0",
                "walk(0..7, 1) NONE"));
        edges.run(25, "WALK (as WAYS are now) from a CORNER", "pad: wab", "walk(0, 0) 0", "done() 1", "walk(0, 0) 1",
            "pad: xab", "walk(0, 1) 1");
        edges.run(25, "UNKNOWN; OUTSIDE.", "walk(0|7, 0) 0", "walk(-1|8|MIN|MAX, 0..1) UNKNOWN",
            "walk(0|7, -1|2|MIN|MAX) OUTSIDE", "walk(-1|8, -1|2) UNKNOWN");
    }

    private static void hang(Edges edges) {
        edges.run(26, "of n CORNERS (1 to 5) each two have a WAY with t tenths (0 to 10), by itself: that all hang together",
            "hang(1, 0..10, 0, 0..1) 1", "hang(2..5, 0, 0, 0) 0", "hang(2..5, 0, 0, 1) 1", "hang(1..5, 10, 0, 0..1) 1",
            "hang(2, 0..10, 0, 0) 0|1|1|3|2|1|3|7|4|9|1", "hang(2, 0..10, 0, 1) 1|10|5|10|5|2|5|10|5|10|1");
        edges.run(26, "of n CORNERS (1 to 5) each two have a WAY with t tenths (0 to 10), by itself: that all hang together",
            "hang(3, 1, 0, 0) 7", "hang(3, 1, 0, 1) 250", "hang(3, 9, 0, 0) 243", "hang(3, 9, 0, 1) 250",
            "hang(4, 1, 0, 0) 6467", "hang(4, 1, 0, 1) 500000", "hang(4, 9, 0, 0) 497907", "hang(5, 1, 0, 0) 10121903",
            "hang(5, 1, 0, 1) 1250000000", "hang(5, 9, 0, 0) 1249365303", "hang(5, 9, 0, 1) 1250000000");
        edges.run(26, "how many WAYS there are in the mean", "hang(1, 0..10, 1, 0) 0", "hang(1, 0..10, 1, 1) 1",
            "hang(2..5, 0, 1, 0) 0", "hang(2..5, 0, 1, 1) 1", "hang(5, 0..10, 1, 0) 0..10", "hang(5, 0..10, 1, 1) 1",
            "hang(2..5, 10, 1, 0) 1|3|6|10", "hang(2..5, 10, 1, 1) 1", "hang(4, 1, 1, 0) 3", "hang(4, 1, 1, 1) 5");
    }

    private static void hangAsTold(Edges edges) {
        edges.run(26, "HANG: together (what = 0), the mean (1). OUTSIDE.", "hang(1|5, 0|10, 0, 1) 1",
            "hang(0|6|-1|MIN|MAX, 5, 0, 0) GONE+OUTSIDE", "hang(5, -1|11|MIN|MAX, 0, 0) GONE+OUTSIDE",
            "hang(5, 5, -1|2|MIN|MAX, 0) GONE+OUTSIDE", "hang(5, 5, 0..1, -1|2|MIN|MAX) GONE+OUTSIDE",
            "hang(0, 11, 2, 2) GONE+OUTSIDE", "hang(1, -1|11, 1, 0) GONE+OUTSIDE");
        edges.run(26, "Fractions are told in lowest terms by part: 0 the upper, 1 the lower number; refused with GONE and the "
            + "refusal.", "hang(3, 5, 0, 0) 1", "hang(3, 5, 0, 1) 2", "hang(4, 5, 1, 0) 3", "hang(4, 5, 1, 1) 1",
            "hang(3, 0, 0, 0) 0", "hang(3, 0, 0, 1) 1", "hang(3, 5, 0, -1|2) GONE+OUTSIDE");
    }

    private static void year(Edges edges) {
        edges.run(27, "A YEAR by a seed (0 to 9999) of m ACTS (1 to 99), from all as it is", "year(0|9999, 1, 0..2) 0",
            "year(0, 99, 0..2) 1|0|5", "year(9999, 99, 0..2) 56|2|5", "year(28, 98..99, 0) 32|40", "year(46, 98..99, 2) 10..11");
        edges.run(27, "A YEAR: who (what = 0), sat (1), WAYS (2). OUTSIDE.", "year(0, 1, 0..2) 0",
            "year(-1|10000|MIN|MAX, 1, 0) OUTSIDE", "year(0, 0|100|-1|MIN|MAX, 0) OUTSIDE",
            "year(0, 1, -1|3|MIN|MAX) OUTSIDE", "year(10000, 100, 3) OUTSIDE");
        edges.run(27, "Nothing is DONE in fact.", "do: wabt0aA(", "say: p.", "year(5, 99, 0..2) ?", "told(0) 2", "told(1) 1",
            "told(10) 0", "told(40) 0", "told(3) 0", "image(0) 1", "year(9999, 99, 1) ?", "restore(0) 1", "told(1) 1",
            "year(0, 100, 0) OUTSIDE");
        // A text that can not be, or can not be read, is nothing to a year.
        edges.run(27, "from all as it is", "pad: A)", "year(3, 1, 0) 2", "pad: A", "year(3, 1, 0) 2");
    }

    private static void yearOfDraws(Edges edges) {
        // 867 becomes 65099, below 65537; 878 becomes 65924, which leaves 387.
        edges.run(27, "x becomes (75 x and 74) left over by 65537", "year(867, 1, 0) 2", "year(878, 1, 0) 1",
            "year(878, 2, 0) 3");
        // 2 becomes 224: draw 0, y 28. 74 becomes 5624: draw 0, y 703, twice 7.
        edges.run(27, "0 a WAY is sworn between CORNERS y left over by 8 and y by 8 (cut) left over by 8", "year(2, 1, 2) 1",
            "year(74, 1, 2) 0", "way(3, 4, true) 1", "year(2, 1, 2) 1", "way(3, 4, false) 0", "way(3, 5, true) 1",
            "year(2, 1, 2) 2");
        // 5 becomes 449: draw 1, y 56. 37 becomes 2849: draw 1, y 356, twice 4.
        edges.run(27, "1 it is taken back", "year(5, 1, 2) 0", "way(7, 0, true) 1", "year(5, 1, 2) 0", "way(7, 1, true) 2",
            "year(5, 1, 2) 1", "way(7, 0, false) 1", "year(5, 1, 2) 1", "year(37, 1, 2) 1");
        // 3 becomes 299: draw 3, y 37.
        edges.run(27, "3 PERSON y left over by 6 goes over", "year(3, 1, 0) 2", "pole(false) 1", "year(3, 1, 0) 0",
            "pole(true) 0", "person(1, 5, 0) NONE", "year(3, 1, 0) 2", "person(0, 0, 0) NONE", "year(3, 1, 0) 3");
    }

    private static void yearOfPeople(Edges edges) {
        // 5616 becomes a draw 4 of person 2 to corner 0, then a draw 6 by which he comes back.
        edges.run(27, "4 he walks to CORNER y by 6 (cut) left over by 8", "person(2, 7, 0) NONE", "year(5616, 2, 0) 4",
            "way(7, 0, true) 1", "year(5616, 1, 0) 4", "year(5616, 2, 0) 0", "pole(false) 1", "year(5616, 2, 0) 4");
        // 28 becomes 2174: draw 6, y 271, by 6: 45. 12 becomes 974: draw 6, y 121, by 6: 20.
        edges.run(27, "6 he comes back, if y by 6 (cut) left over by 4 is not 0, else he SITS down", "person(1, 0, 0) NONE",
            "year(28, 1, 0) 0", "year(28, 1, 1) 0", "year(12, 1, 0) 2", "year(12, 1, 1) 1", "person(1, 7, 0) 0",
            "year(28, 1, 0) 2", "year(12, 1, 1) 1", "do: B!", "year(12, 1, 1) 0", "year(28, 1, 0) 2",
            "person(1, -1, 0) 7", "year(12, 1, 1) 0");
        edges.run(27, "how many sat down in it", "person(0..5, 3, 8) NONE", "do: A!", "year(15, 1, 1) 5", "do: B!",
            "year(15, 1, 1) 4", "person(5, 3, 7) 3", "year(15, 1, 1) 3");
    }

    private static void yearOfHours(Edges edges) {
        // 7 becomes 599: draw 7, y 74. 55 becomes 4199: draw 7, y 524, and then a draw 3 of person 0.
        edges.run(27, "7 an hour, if y left over by 4 is not 0, else the POLE goes", "person(3, 5, 8) NONE", "year(7, 1, 1) 1",
            "year(55, 1, 1) 0", "year(55, 1, 0) 8", "year(55, 2, 0) 8", "pole(false) 1", "year(55, 1, 0) 8",
            "year(55, 2, 0) 9");
        // 95 draws two hours: at hour 97 both can be, at hour 98 only one.
        String dots = "............................................................";
        edges.run(27, "each if that can be", "do: " + dots, "do: " + dots.substring(0, 37), "told(3) 97",
            "person(0, 1, 7) NONE", "year(95, 1, 1) 0", "year(95, 2, 1) 1", "do: .", "person(0, 1, 7) 1",
            "year(95, 2, 1) 0", "person(0, 1, 8) 1", "year(95, 1, 1) 1", "do: .", "person(0, 1, 8) 1", "year(95, 2, 1) 0");
    }
}
