/** The edges of promises 9 to 14. */
final class SessionsEdges {
    private static final String SIXTY = "............................................................";
    private static final String TO_HOUR_98 = SIXTY.substring(0, 38);

    private SessionsEdges() {
    }

    static void run(Edges edges) {
        reasonsOfWaysAndThings(edges);
        reasonsOfSides(edges);
        reasonsOfSitting(edges);
        reasonsOfThePole(edges);
        reasonsOfPlaces(edges);
        reasonOfTheHour(edges);
        leastReason(edges);
        judge(edges);
        howManySat(edges);
        behind(edges);
        goingOverAndBack(edges);
        hours(edges);
        lies(edges);
        there(edges);
        first(edges);
        done(edges);
    }

    private static void reasonsOfWaysAndThings(Edges edges) {
        edges.run(9, "1 both CORNERS are one (w, x)", "judged: waa 0 1", "judged: wab NONE NONE", "judged: whh 0 1",
            "judged: xhh 0 1", "way(6, 7, true) 1", "judged: xhg NONE NONE", "judged: xgg 0 1");
        edges.run(9, "2 the WAY is there already (w), is not (x)", "judged: wab NONE NONE", "judged: wabwab 1 2",
            "judged: wabwba 1 2", "judged: xab 0 2", "judged: wabxab NONE NONE", "judged: wabxba NONE NONE",
            "judged: wabxabxab 2 2", "judged: wabxabwba NONE NONE");
        edges.run(9, "2 the WAY is there already (w), is not (x)", "way(0, 7, true) 1", "judged: wah 0 2", "judged: wha 0 2",
            "judged: xha NONE NONE", "way(0, 7, false) 0", "judged: wah NONE NONE", "judged: xah 0 2");
        edges.run(9, "3 the THING is somewhere already (t)", "judged: t0a NONE NONE", "judged: t0at0a 1 3",
            "judged: t0at0h 1 3", "judged: t0at1a NONE NONE", "judged: t0aA(A$0t0a 3 3", "judged: t0aA(A$0A)t0a NONE NONE");
        edges.run(9, "3 the THING is somewhere already (t)", "thing(7, 7) NONE", "judged: t7h 0 3", "judged: t7a 0 3",
            "thing(7, -1) 7", "judged: t7a NONE NONE");
    }

    private static void reasonsOfSides(Edges edges) {
        String sentence = "4 he is THERE already ((), is not (all others of a PERSON)";
        edges.run(9, sentence, "judged: A( NONE NONE", "judged: A(A( 1 4", "judged: A(B( NONE NONE",
            "judged: A(A)A( NONE NONE", "judged: A(A!A( 2 4");
        edges.run(9, sentence, "judged: F) 0 4", "judged: Fa 0 4", "judged: F$0 0 4", "judged: F! 0 4",
            "judged: F(F) NONE NONE", "judged: F(F! NONE NONE", "judged: F(F)F) 2 4", "judged: F(F)F! 2 4");
        edges.run(9, sentence, "person(0, 7, 0) NONE", "judged: A( 0 4", "judged: A! NONE NONE", "person(0, -1, 0) 7",
            "judged: A( NONE NONE", "judged: A! 0 4");
    }

    private static void reasonsOfSitting(Edges edges) {
        String sentence = "5 he SITS (likewise, but for ()";
        edges.run(9, sentence, "way(0, 1, true) 1", "thing(0, 0) NONE", "person(0, 0, 0) NONE", "judged: A) NONE NONE",
            "judged: Ab NONE NONE", "judged: A$0 NONE NONE", "judged: A! NONE NONE", "judged: A!A) 1 5",
            "judged: A!Ab 1 5", "judged: A!A$0 1 5", "judged: A!A! 1 5", "judged: A!A( 1 4");
        // Who has been made to sit by an hour sits likewise; one short of it he does not.
        edges.run(9, sentence, "person(0, 0, 7) NONE", "judged: .A) NONE NONE", "judged: ..A) 2 5", "judged: ..A! 2 5");
        edges.run(9, sentence, "do: A(A!", "judged: A) 0 5", "judged: B( NONE NONE", "person(0, 0, 0) 0",
            "judged: A) NONE NONE");
    }

    private static void reasonsOfThePole(Edges edges) {
        String sentence = "6 the POLE is down ((, ))";
        edges.run(9, sentence, "judged: A( NONE NONE", "judged: pA( 1 6", "judged: ppA( NONE NONE", "judged: A(pA) 2 6",
            "judged: A(ppA) NONE NONE", "judged: pppA( 3 6");
        // It stops who goes over or comes back, and nothing else.
        edges.run(9, sentence, "way(0, 1, true) 1", "thing(0, 0) NONE", "person(0, 0, 0) NONE", "pole(false) 1",
            "judged: Ab NONE NONE", "judged: A$0 NONE NONE", "judged: A! NONE NONE", "judged: . NONE NONE",
            "judged: xabwabt1a NONE NONE", "judged: A) 0 6", "judged: B( 0 6", "pole(true) 0", "judged: A)B( NONE NONE");
    }

    private static void reasonsOfPlaces(Edges edges) {
        edges.run(9, "7 he is not on CORNER 0 ())", "way(0, 1, true) 1", "judged: A(A) NONE NONE", "judged: A(AbA) 2 7",
            "judged: A(AbAaA) NONE NONE", "person(1, 1, 0) NONE", "judged: B) 0 7", "person(1, 7, 0) 1", "judged: B) 0 7",
            "person(1, 0, 0) 7", "judged: B) NONE NONE");
        edges.run(9, "8 no WAY leads there from where he is (a CORNER's letter)", "judged: A(Ab 1 8",
            "judged: wabA(Ab NONE NONE", "judged: wbaA(Ab NONE NONE", "judged: wabxabA(Ab 3 8", "judged: wabA(Aa 2 8",
            "judged: wabwbcA(Ac 3 8", "judged: wabwbcA(AbAc NONE NONE", "judged: wabA(AbAaAb NONE NONE");
        edges.run(9, "8 no WAY leads there from where he is (a CORNER's letter)", "way(6, 7, true) 1", "person(5, 7, 0) NONE",
            "judged: Fg NONE NONE", "judged: Fh 0 8", "judged: Fa 0 8", "judged: FgFhFg NONE NONE");
        edges.run(9, "9 that THING does not lie on his CORNER ($)", "judged: A(A$0 1 9", "judged: t0aA(A$0 NONE NONE",
            "judged: t0bA(A$0 2 9", "judged: t0aA(A$1 2 9", "judged: t0aA(A$0A$0 3 9", "judged: t0aA(B(A$0B$0 4 9",
            "judged: wabt0bA(AbA$0 NONE NONE", "judged: wabt0bA(AbAaA$0 5 9");
        edges.run(9, "9 that THING does not lie on his CORNER ($)", "person(5, 7, 0) NONE", "thing(7, 7) NONE",
            "judged: F$7 NONE NONE", "thing(7, 6) 7", "judged: F$7 0 9", "thing(7, -1) 6", "judged: F$7 0 9");
    }

    private static void reasonOfTheHour(Edges edges) {
        edges.run(9, "10 it is hour 99 (.)", "do: " + SIXTY, "do: " + TO_HOUR_98, "told(3) 98", "judged: . NONE NONE",
            "there(4) 99", "judged: .. 1 10", "there(4) STATE", "done() STATE", "told(3) 98", "do: .", "told(3) 99",
            "judged: . 0 10", "judged: pp. 2 10", "judged: wabpA NO NO", "judged: wabp NONE NONE");
    }

    private static void leastReason(Edges edges) {
        String sentence = "An ACT can not be for the least of these reasons";
        edges.run(9, sentence, "judged: xaa 0 1", "pole(false) 1", "person(0, 3, 0) NONE", "judged: A( 0 4",
            "judged: B( 0 6", "judged: B) 0 4", "judged: A) 0 6", "judged: A!A) 1 5", "judged: Bh 0 4", "judged: Ah 0 8",
            "judged: A!Ah 1 5", "judged: B$7 0 4", "judged: A$7 0 9", "judged: A!A$7 1 5", "judged: pA) 1 7",
            "judged: pA!A) 2 5");
    }

    private static void judge(Edges edges) {
        edges.run(9, "JUDGED: the ACT (what = 0), why (1), how many (2); NONE.", "judge(0..1) NONE", "judge(2) 0",
            "judge(-1|3|MIN|MAX) OUTSIDE", "judged: wab NONE NONE", "judge(2) 0", "judged: wabwab 1 2", "judge(2) STATE");
        edges.run(9, "the first ACT (from 0 on) that can not be, why", "judged: A) 0 4", "judged: pppA(xab 3 6",
            "judged: wabt0bA(AbA$0A) 5 7", "judged: waaxaaA) 0 1", "judged: wabxaaA) 1 1");
        edges.run(9, "the first ACT (from 0 on) that can not be, why", "pad: " + SIXTY.substring(0, 57), "say: waa",
            "judge(0) 57", "judge(1) 1");
        edges.run(9, "OUTSIDE; NO: there is a FAULT", "pad: A", "judge(0..2) NO", "say: (", "judge(0..1) NONE", "judge(2) 0",
            "pad: A)q", "judge(0..2) NO", "judge(-1|3) OUTSIDE");
        edges.run(9, "STATE (2): some ACT can not be.", "pad: A!", "judge(0) 0", "judge(1) 4", "judge(2) STATE",
            "judge(3) OUTSIDE", "pad: A(A!", "judge(0..1) NONE", "judge(2) 1", "say: A!", "judge(0) 2", "judge(1) 5",
            "judge(2) STATE", "told(0) 6");
    }

    private static void howManySat(Edges edges) {
        edges.run(9, "how many PEOPLE sat down in the text", "pad: A(B(", "judge(2) 0", "say: A!", "judge(2) 1", "say: B!",
            "judge(2) 2", "done() 4", "judge(2) 0", "pad: C(C!", "judge(2) 1");
        edges.run(9, "how many PEOPLE sat down in the text", "pad: A(B(C(D(E(F(........", "judge(2) 0", "say: .",
            "judge(2) 6", "say: .", "judge(2) 6");
        edges.run(9, "how many PEOPLE sat down in the text", "person(0, 1, 8) NONE", "person(1, 1, 7) NONE", "pad: .",
            "judge(2) 1", "say: .", "judge(2) 2", "pad: B!.", "judge(2) 2", "pad: A!.", "judge(2) 1");
    }

    private static void behind(Edges edges) {
        edges.run(10, "BEHIND: the CORNER (what = 0; NONE), FAINT (1), SITS (2), what he carries (3).",
            "person(0, 7, 3) NONE", "behind(0, 0) 7", "behind(0, 1) 3", "behind(0, 2..3) 0", "behind(1, 0) NONE",
            "behind(1, 1..3) 0", "pad: B(B!", "behind(1, 0) 0", "behind(1, 2) 1", "behind(5, 0) NONE");
        edges.run(10, "UNKNOWN; OUTSIDE; NO, STATE, as of judge(2).", "behind(0, 0) NONE", "behind(5, 3) 0",
            "behind(-1|6|MIN|MAX, 0..3) UNKNOWN", "behind(0|5, -1|4|MIN|MAX) OUTSIDE", "behind(-1|6, -1|4) UNKNOWN");
        edges.run(10, "UNKNOWN; OUTSIDE; NO, STATE, as of judge(2).", "pad: A", "behind(0|5, 0..3) NO",
            "behind(6, 0) UNKNOWN", "behind(0, 4) OUTSIDE", "say: )", "behind(0|5, 0..3) STATE", "behind(-1, 0) UNKNOWN",
            "behind(0, -1) OUTSIDE", "pad: A(A)", "behind(0, 0) NONE", "say: A)q", "behind(0, 0) NO");
        edges.run(10, "BEHIND: of a PERSON the CORNER (NONE: HERE), by how much he is FAINT, whether he SITS (1, 0)",
            "pad: A(", "behind(0, 0) 0", "behind(1, 0) NONE", "say: A)", "behind(0, 0) NONE", "person(5, 7, 9) NONE",
            "behind(5, 1) 9", "pad: F!", "behind(5, 2) 1", "behind(5, 1) 9", "behind(5, 0) 7");
        edges.run(10, "what he carries (bits)", "thing(0..7, 0) NONE", "person(5, 0, 0) NONE", "behind(5, 3) 0",
            "pad: F$0", "behind(5, 3) 1", "pad: F$7", "behind(5, 3) 128", "behind(4, 3) 0",
            "pad: F$0F$1F$2F$3F$4F$5F$6F$7", "behind(5, 3) 255", "behind(5, 0) 0");
    }

    private static void goingOverAndBack(Edges edges) {
        edges.run(10, "( (he goes over: he is on CORNER 0)", "pad: A(", "behind(0, 0) 0", "behind(0, 1) 0",
            "behind(0, 2..3) 0", "behind(1, 0) NONE", "pad: F(", "behind(5, 0) 0", "there(1) 32");
        edges.run(10, ") (he comes back: he is HERE, not FAINT, and what he carries is nowhere)", "thing(2..3, 0) NONE",
            "person(0, 0, 8) NONE", "person(1, 0, 1) NONE", "pad: A$2B$3A)", "behind(0, 0) NONE", "behind(0, 1) 0",
            "behind(0, 3) 0", "lies(2, 0..1) NONE", "lies(3, 1) 1", "behind(1, 1) 1", "say: A(", "behind(0, 0) 0",
            "behind(0, 1) 0", "behind(0, 3) 0", "say: t2h", "lies(2, 0) 7");
    }

    private static void hours(Edges edges) {
        String sentence = "each one who is THERE, and does not SIT, is FAINT by 1 more; who is so by 9 then SITS";
        edges.run(10, sentence, "person(0, 1, 7) NONE", "person(1, 1, 8) NONE", "person(2, 1, 0) NONE", "pad: .",
            "behind(0, 1) 8", "behind(0, 2) 0", "behind(1, 1) 9", "behind(1, 2) 1", "behind(2, 1) 1", "behind(2, 2) 0",
            "behind(3, 0) NONE", "behind(3, 1..2) 0", "say: .", "behind(0, 1) 9", "behind(0, 2) 1", "behind(1, 1) 9");
        // Who sits gets no fainter, by how much he ever was.
        edges.run(10, sentence, "person(0, 1, 7) NONE", "pad: A!..", "behind(0, 1) 7", "behind(0, 2) 1", "pad: .A!.",
            "behind(0, 1) 8");
        edges.run(10, sentence, "pad: A(........", "behind(0, 1) 8", "behind(0, 2) 0", "say: .", "behind(0, 1) 9",
            "behind(0, 2) 1", "say: .", "behind(0, 1) 9");
        // Put there as faint as can be he does not sit yet; FAINT is 0 to 9, so the hour makes him sit at 9.
        edges.run(10, "are FAINT by 0 to 9", "person(0, 1, 9) NONE", "behind(0, 1) 9", "behind(0, 2) 0", "pad: .",
            "behind(0, 1) 9", "behind(0, 2) 1", "judge(2) 1");
    }

    private static void lies(Edges edges) {
        edges.run(11, "LIES: the CORNER (what = 0), who (1); NONE.", "lies(0..7, 0..1) NONE", "pad: t0at7h", "lies(0, 0) 0",
            "lies(0, 1) NONE", "lies(7, 0) 7", "lies(7, 1) NONE", "say: A(A$0", "lies(0, 0) NONE", "lies(0, 1) 0",
            "say: A)", "lies(0, 0..1) NONE");
        edges.run(11, "(NONE both: nowhere; a carried one lies on none)", "thing(3, 0) NONE", "person(5, 0, 0) NONE",
            "lies(3, 0) 0", "lies(3, 1) NONE", "do: F$3", "lies(3, 0) NONE", "lies(3, 1) 5", "thing(3, -1) NONE",
            "lies(3, 0..1) NONE");
        edges.run(11, "UNKNOWN; OUTSIDE; NO, STATE, likewise.", "lies(0|7, 0..1) NONE", "lies(-1|8|MIN|MAX, 0..1) UNKNOWN",
            "lies(0|7, -1|2|MIN|MAX) OUTSIDE", "lies(-1|8, -1|2) UNKNOWN", "pad: t0", "lies(0, 0..1) NO",
            "lies(8, 0) UNKNOWN", "lies(0, 2) OUTSIDE", "say: a", "lies(0, 0) 0", "say: t0a", "lies(0, 0..1) STATE",
            "lies(8, 0) UNKNOWN", "lies(0, 2) OUTSIDE", "say: q", "lies(0, 0) NO");
    }

    private static void there(Edges edges) {
        edges.run(12, "THERE: WAYS (what = 0), who is (1), who SITS (2), the POLE (3), the hour (4).", "there(0..2) 0",
            "there(3) 1", "there(4) 0", "pad: wahA(F(F!p.", "there(0) 1", "there(1) 33", "there(2) 32", "there(3) 0",
            "there(4) 1", "say: pxahA)", "there(0) 0", "there(1) 32", "there(3) 1", "told(1) 0", "told(2) 1");
        edges.run(12, "how many WAYS, who is (bits), who SITS (bits), the POLE (1 up, 0 down), the hour",
            CornersEdges.rows(CornersEdges.ALL_WAYS, "there(0) 28", "pad: xgh", "there(0) 27", "say: whg", "there(0) 28",
                "pad: A(B(C(D(E(F(A!B!C!D!E!F!", "there(1) 63", "there(2) 63"));
        edges.run(12, "OUTSIDE; NO, STATE, likewise.", "there(4) 0", "there(-1|5|MIN|MAX) OUTSIDE", "pad: w",
            "there(0..4) NO", "there(-1|5) OUTSIDE", "say: aa", "there(0..4) STATE", "there(-1|5) OUTSIDE", "say: w",
            "there(0) NO", "pad: wab", "there(0) 1");
    }

    private static void first(Edges edges) {
        edges.run(13, "FIRST: the ACT (what = 0), who (1); NONE.", "first(0..1) NONE", "pad: A(B(", "first(0..1) NONE",
            "say: B!A!", "first(0) 2", "first(1) 1", "done() 4", "first(0..1) NONE", "pad: .", "first(0..1) NONE");
        edges.run(13, "the first ACT by which one sat down; who, the least; NONE", "person(2, 1, 8) NONE",
            "person(4, 1, 8) NONE", "person(0, 1, 7) NONE", "pad: .", "first(0) 0", "first(1) 2", "pad: p.A!",
            "first(0) 1", "first(1) 2", "pad: E!.", "first(0) 0", "first(1) 4", "pad: C!.", "first(0) 0", "first(1) 2");
        edges.run(13, "the first ACT by which one sat down; who, the least; NONE", "person(5, 7, 0) NONE",
            "pad: pppppppppppppppppppppppppppppppppppppppppppppppppppppppppp", "first(0) NONE", "say: F!",
            "first(0) 58", "first(1) 5");
        edges.run(13, "OUTSIDE; NO, STATE, likewise.", "first(-1|2|MIN|MAX) OUTSIDE", "pad: A", "first(0..1) NO",
            "first(-1|2) OUTSIDE", "say: !", "first(0..1) STATE", "first(-1|2) OUTSIDE", "pad: A(A!A!",
            "first(0..1) STATE", "say: A", "first(0..1) NO", "pad: A(A!", "first(0) 1", "first(1) 0");
    }

    private static void done(Edges edges) {
        edges.run(14, "SESSIONS are DONE (the PAD is empty then): ACTS.", "done() 0", "say: wabt0b", "done() 2", "told(0) 0",
            "fault() NONE", "told(1) 1", "told(40) 1", "done() 0", "told(1) 1", "say: A(AbA$0.A!p", "done() 6",
            "told(10) 1", "told(20) 1", "told(30) 1", "told(50) 0", "told(40) NONE", "told(2) 0", "told(3) 1");
        edges.run(14, "SESSIONS are DONE (the PAD is empty then): ACTS.", "pad: " + SIXTY, "done() 60", "told(0) 0",
            "told(3) 60", "say(46) 1");
        edges.run(14, "NO, STATE, likewise.", "pad: wabA", "done() NO", "told(0) 4", "told(1) 0", "say: )", "fault() NONE",
            "done() STATE", "told(0) 5", "told(1) 0", "judge(0) 1", "say: q", "done() NO", "told(0) 6", "pad: wab",
            "done() 1", "told(1) 1");
    }
}
