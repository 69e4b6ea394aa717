/** Boundary cases of what will be, of gutters, and of the slate: Terms 3, up to ENTIRE. */
final class AheadEdges {
    /** RUNS OVER for the first time in the 82nd MINUTE: one comes in each second. */
    private static final String LATE = "mouth a nest high 1 takes 1 holds 40;letter l of a;rain 0 1;";

    private AheadEdges() {
    }

    static void run() {
        Edge.edge("Terms 3", "(MINUTES going by, nothing else being done.)", AheadEdges::nothingElseDone);
        Edge.edge("Terms 3", "how much stands in a MOUTH behind so many (0 to 60) MINUTES", AheadEdges::later0To60);
        Edge.edge("Terms 3", "what is READ in the so-many-th MINUTE (1 to 60) from now on", AheadEdges::reads1To60);
        Edge.edge("Terms 3", "whatever room the slate has. WHEN", AheadEdges::readsOnAFullSlate);
        Edge.edge("Terms 3", "in which one (1 to 60) a LETTER is READ for the first time", AheadEdges::when1To60);
        Edge.edge("Terms 3", "behind how many (0 to 60) nothing stands anywhere", AheadEdges::dry0To60);
        Edge.edge("Terms 3", "how much runs onto the path in so many (1 to 60), together", AheadEdges::spill1To60);
        Edge.edge("Terms 3", "in which one (1 to 60) a MOUTH RUNS OVER for the first time", AheadEdges::over1To60);
        Edge.edge("Terms 3", "the MOUTH that does so the soonest (by 60)", AheadEdges::firstBy60);
        Edge.edge("Terms 3", "the soonest (by 60); of equal ones the first", AheadEdges::firstOfEqualOnes);
        Edge.edge("Terms 3", "the MOUTH that spouts the most in so many (1 to 60), together", AheadEdges::great1To60);
        Edge.edge("Terms 3", "together; of equal ones the first", AheadEdges::greatOfEqualOnes);
        Edge.edge("Terms 3", "pairs of MOUTHS that spout as much as one another in each of so many (1 to 60)", AheadEdges::twins1To60);
        Edge.edge("Terms 3", "those to which it comes by gutters, on and on (bits)", AheadEdges::down);
        Edge.edge("Terms 3", "those from which it comes to it so (bits)", AheadEdges::up);
        Edge.edge("Terms 3", "the most MOUTHS one below another by gutters", AheadEdges::chain);
        Edge.edge("Terms 3", "who SOUNDED in the last MINUTE (bits; ahead of any: nobody)", AheadEdges::sounds);
        Edge.edge("Terms 3", "LAST: what was READ in it", AheadEdges::last);
        Edge.edge("Terms 3", "the LETTER that is the most often on the slate", AheadEdges::often);
        Edge.edge("Terms 3", "of equal ones the first (if any is)", AheadEdges::oftenOfEqualOnes);
        Edge.edge("Terms 3", "the most signs on the slate, one behind another, that are the same LETTER", AheadEdges::run40);
        Edge.edge("Terms 3", "the first place (from 0) on the slate from which the WORD stands there, sign by sign", AheadEdges::stands);
        Edge.edge("Terms 3", "how many places there are from which it stands so if a HOLE may be any LETTER", AheadEdges::maybe);
        Edge.edge("Terms 3", "behind how many MINUTES (0 to 60) the WORD stands somewhere on the slate", AheadEdges::entire0To60);
        Edge.edge("Terms 3", "which takes no more than 40 signs", AheadEdges::entireOnAFullSlate);
    }

    private static void nothingElseDone() {
        StoneReaders x = Due.told("mouth a plain high 2 takes 1 holds 9;mouth n nest high 1 takes 2 holds 5;gutter a n;"
                + "letter l of a;rain 4 0 1;");
        Due.word(x, "l l");
        x.minute();
        x.pour(1, 1);
        for (int times = 0; times < 2; times++) {
            x.later(0, 60);
            x.reads(60);
            x.when(0);
            x.dry();
            x.spill(60);
            x.over(1);
            x.first();
            x.great(60);
            x.twins(60);
            x.entire();
            int[] want = {2, 1, 1, 0, 7, 2, 1, 0, 0, 2, 0, 2, 0};
            for (int what = 0; what <= 12; what++) {
                Due.due("count(" + what + ")", x.count(what), want[what]);
            }
            Due.due("mouth(0, 5)", x.mouth(0, 5), 1);
            Due.due("mouth(0, 7)", x.mouth(0, 7), 3);
            Due.due("sounds()", x.sounds(), 1);
            Due.due("last()", x.last(), 0);
            Due.due("slate(0)", x.slate(0), 0);
        }
        // The nest stays STOPPED, the rain goes on from where it is: 0 1 4 0.
        Due.due("later(1, 2)", x.later(1, 2), 5);
        Due.due("over(1)", x.over(1), 1);
        Due.due("reads(1)", x.reads(1), 0);
        Due.due("later(0, 3)", x.later(0, 3), 1);
    }

    private static void later0To60() {
        StoneReaders x = Due.told(LATE);
        x.pour(0, 3);
        Due.due("later(0, 0)", x.later(0, 0), 3);
        Due.due("later(0, 1)", x.later(0, 1), 3);
        Due.due("later(0, 2)", x.later(0, 2), 4);
        Due.due("later(0, 59)", x.later(0, 59), 32);
        Due.due("later(0, 60)", x.later(0, 60), 33);
        Due.due("later(0, 61)", x.later(0, 61), -1);
        Due.due("later(0, -1)", x.later(0, -1), -1);
        Due.minutes(x, 1);
        Due.due("later(0, 60) from 1 on", x.later(0, 60), 33);
        Due.due("later(0, 59) from 1 on", x.later(0, 59), 33);
    }

    private static void reads1To60() {
        StoneReaders x = Due.told("mouth a nest high 2 takes 1 holds 40;letter l of a;rain 0 1;sounds stands=30;");
        Due.due("reads(0)", x.reads(0), -2);
        Due.due("reads(1)", x.reads(1), -1);
        Due.due("reads(59)", x.reads(59), -1);
        Due.due("reads(60)", x.reads(60), 0);
        Due.due("reads(61)", x.reads(61), -2);
        Due.due("reads(-1)", x.reads(-1), -2);
        Due.minutes(x, 59);
        Due.due("reads(1) behind 59", x.reads(1), 0);
        Due.due("reads(2) behind 59", x.reads(2), 0);
        Due.due("reads(3) behind 59", x.reads(3), -1);
    }

    private static void readsOnAFullSlate() {
        StoneReaders x = Due.told("mouth a plain high 2 takes 1 holds 9;mouth b plain high 1 takes 0 holds 9;letter l of a;rain 1;");
        Due.due("reads(41)", x.reads(41), 0);
        Due.due("reads(60)", x.reads(60), 0);
        Due.minutes(x, 40);
        Due.due("reads(1)", x.reads(1), 0);
        x.pour(1, 1);
        Due.due("reads(1) of a HOLE", x.reads(1), 6);
        Due.due("reads(2)", x.reads(2), 0);
    }

    private static void when1To60() {
        StoneReaders x = Due.told("mouth a nest high 1 takes 1 holds 40;mouth b plain high 2 takes 0 holds 9;letter l of a;letter m of b;"
                + "letter k of a b;rain 0 1;sounds stands=40 or flow;");
        // a has 40 in it behind the 80th.
        x.pour(1, 1);
        Due.due("when(1)", x.when(1), 1);
        Due.due("when(2)", x.when(2), -1);
        Due.minutes(x, 19);
        Due.due("when(0) of the 61st", x.when(0), -1);
        Due.due("when(1) of what was", x.when(1), -1);
        x.minute();
        Due.due("when(0) of the 60th", x.when(0), 60);
        Due.minutes(x, 59);
        Due.due("when(0) of the 1st", x.when(0), 1);
        // Being READ now is not being READ from now on: the first one is still the next.
        x.minute();
        Due.due("last()", x.last(), 0);
        Due.due("when(0) again", x.when(0), 1);
        Due.due("when(3)", x.when(3), -1);
        Due.due("when(-1)", x.when(-1), -1);
    }

    private static void dry0To60() {
        StoneReaders x = Due.told("mouth a slow high 1 takes 1 holds 40;rain 1 0;");
        Due.due("dry() of what is dry", x.dry(), 0);
        // Each two MINUTES one less: 31 are gone behind 62.
        x.pour(0, 20);
        x.pour(0, 11);
        Due.due("dry() behind 62", x.dry(), -1);
        x.minute();
        Due.due("dry() behind 61", x.dry(), -1);
        x.minute();
        Due.due("dry() behind 60", x.dry(), 60);
        x.minute();
        Due.due("dry() behind 59", x.dry(), 59);
        Due.minutes(x, 58);
        Due.due("dry() behind 1", x.dry(), 1);
        x.minute();
        Due.due("dry() behind 0", x.dry(), 0);
        // Anywhere: one that is STOPPED keeps its own.
        StoneReaders y = Due.told("mouth a plain high 1 takes 0 holds 9;mouth n nest high 1 takes 0 holds 9;");
        y.pour(0, 9);
        Due.due("dry() of 9", y.dry(), 3);
        y.pour(1, 1);
        Due.due("dry() never", y.dry(), -1);
        Due.due("dry() without MOUTHS", new StoneReaders().dry(), 0);
    }

    private static void spill1To60() {
        StoneReaders x = Due.told("mouth a nest high 2 takes 1 holds 0;mouth b nest high 2 takes 2 holds 0;rain 1;");
        Due.due("spill(0)", x.spill(0), -1);
        Due.due("spill(1)", x.spill(1), 3);
        Due.due("spill(2)", x.spill(2), 6);
        Due.due("spill(59)", x.spill(59), 177);
        Due.due("spill(60)", x.spill(60), 180);
        Due.due("spill(61)", x.spill(61), -1);
        Due.due("spill(-1)", x.spill(-1), -1);
        StoneReaders none = Due.told("mouth a nest high 2 takes 1 holds 40;");
        Due.due("spill(60) of nothing", none.spill(60), 0);
    }

    private static void over1To60() {
        StoneReaders x = Due.told(LATE);
        Due.minutes(x, 21);
        Due.due("over(0) of the 61st", x.over(0), -1);
        x.minute();
        Due.due("over(0) of the 60th", x.over(0), 60);
        Due.minutes(x, 59);
        Due.due("over(0) of the 1st", x.over(0), 1);
        x.minute();
        // It has just run over: the next time is the second from now on.
        Due.due("over(0) again", x.over(0), 2);
        // Into a gutter, too.
        StoneReaders y = Due.told("mouth a nest high 2 takes 3 holds 1;mouth b nest high 1 takes 0 holds 2;gutter a b;rain 1;");
        Due.due("over(0)", y.over(0), 1);
        Due.due("over(1) by just what it holds, then more", y.over(1), 2);
    }

    private static void firstBy60() {
        StoneReaders x = Due.told(LATE);
        Due.minutes(x, 21);
        Due.due("first() of the 61st", x.first(), -1);
        x.minute();
        Due.due("first() of the 60th", x.first(), 0);
        StoneReaders y = Due.told("mouth a nest high 3 takes 1 holds 5;mouth b nest high 2 takes 2 holds 9;mouth c nest high 1 takes 1 holds 4;rain 1;");
        // 6, 5 and 5.
        Due.due("first()", y.first(), 1);
        y.pour(0, 1);
        Due.due("first() of all three in the 5th", y.first(), 0);
        y.pour(2, 1);
        Due.due("first() of the 4th", y.first(), 2);
    }

    private static void firstOfEqualOnes() {
        // By numbers, not by height.
        StoneReaders x = Due.told("mouth a nest high 1 takes 0 holds 9;mouth b nest high 2 takes 1 holds 1;mouth c nest high 20 takes 1 holds 1;rain 1;");
        Due.due("first() of b and c", x.first(), 1);
        StoneReaders y = Due.told("mouth low nest high 1 takes 0 holds 1;mouth top nest high 9 takes 4 holds 1;gutter top low;rain 1;");
        Due.due("first() of what runs down at once", y.first(), 0);
    }

    private static void great1To60() {
        StoneReaders x = Due.told("mouth a wide high 1 takes 0 holds 40;mouth b plain high 1 takes 0 holds 40;mouth c slow high 1 takes 1 holds 40;rain 1;");
        x.pour(0, 4);
        x.pour(1, 10);
        Due.due("great(1): 4, 3, 1", x.great(1), 0);
        Due.due("great(2): 4, 6, 2", x.great(2), 1);
        Due.due("great(10): 4, 10, 10", x.great(10), 1);
        Due.due("great(11): 4, 10, 11", x.great(11), 2);
        Due.due("great(60)", x.great(60), 2);
        Due.due("great(0)", x.great(0), -1);
        Due.due("great(61)", x.great(61), -1);
        Due.due("great(-1)", x.great(-1), -1);
        // The 60th MINUTE counts.
        StoneReaders z = Due.told("mouth a plain high 1 takes 0 holds 40;mouth b slow high 1 takes 1 holds 1;rain 0 1;");
        // a 29 at once, b 30 by the 60th.
        z.pour(0, 20);
        z.pour(0, 9);
        Due.due("great(59): 29 and 29", z.great(59), 0);
        Due.due("great(60): 29 and 30", z.great(60), 1);
    }

    private static void greatOfEqualOnes() {
        StoneReaders x = Due.told("mouth a nest high 1 takes 0 holds 9;mouth b plain high 2 takes 1 holds 9;mouth c plain high 20 takes 1 holds 9;rain 1;");
        Due.due("great(5) of b and c", x.great(5), 1);
        x.stop(1);
        x.stop(2);
        Due.due("great(5) of nothing", x.great(5), 0);
    }

    private static void twins1To60() {
        StoneReaders x = Due.told("mouth a plain high 1 takes 1 holds 40;mouth b plain high 2 takes 1 holds 40;mouth c wide high 3 takes 1 holds 40;"
                + "mouth n nest high 1 takes 1 holds 40;rain 1;");
        Due.due("twins(1): a, b, c", x.twins(1), 3);
        Due.due("twins(60)", x.twins(60), 3);
        Due.due("twins(0)", x.twins(0), -1);
        Due.due("twins(61)", x.twins(61), -1);
        Due.due("twins(-1)", x.twins(-1), -1);
        // As much together, but not in each.
        x.pour(0, 6);
        x.pour(2, 6);
        Due.due("twins(1): none", x.twins(1), 0);
        // In the 60th alone b gets one, by which it parts from a and t.
        StoneReaders y = Due.told("mouth a slow high 2 takes 0 holds 40;mouth b slow high 2 takes 0 holds 40;"
                + "mouth t nest high 3 takes 1 holds 29;gutter t b;rain 0 1;");
        Due.due("twins(59)", y.twins(59), 3);
        Due.due("twins(60)", y.twins(60), 1);
        // The two calls ahead leave nothing behind for the next.
        StoneReaders z = Due.told("mouth a slow high 2 takes 1 holds 9;mouth b plain high 2 takes 1 holds 9;mouth c wide high 2 takes 1 holds 9;rain 4 0;");
        Due.due("great(2)", z.great(2), 1);
        Due.due("twins(1): 1, 3, 4", z.twins(1), 0);
        z.minute();
        Due.due("twins(1): 1, 1, 0", z.twins(1), 1);
        Due.due("twins(3) behind twins(1)", z.twins(3), 0);
        Due.due("twins(1) behind twins(3)", z.twins(1), 1);
        Due.due("twins(1) of one", Due.told("mouth a slow high 2 takes 0 holds 40;").twins(1), 0);
        Due.due("twins(1) of none", new StoneReaders().twins(1), 0);
    }

    private static StoneReaders seven() {
        StringBuilder all = new StringBuilder();
        for (char m = 'a'; m <= 'g'; m++) {
            all.append("mouth ").append(m).append(" plain high ").append(m - 'a' + 1).append(" takes 1 holds 1;");
        }
        for (char m = 'b'; m <= 'g'; m++) {
            all.append("gutter ").append(m).append(' ').append((char) (m - 1)).append(';');
        }
        return Due.told(all.toString());
    }

    private static StoneReaders tree() {
        return Due.told("mouth a plain high 1 takes 1 holds 1;mouth b plain high 2 takes 1 holds 1;mouth c plain high 2 takes 1 holds 1;"
                + "mouth d plain high 3 takes 1 holds 1;mouth e plain high 9 takes 1 holds 1;gutter b a;gutter c a;gutter d b;");
    }

    private static void down() {
        StoneReaders x = tree();
        int[] want = {0, 1, 1, 3, 0};
        for (int i = 0; i < 5; i++) {
            Due.due("down(" + i + ")", x.down(i), want[i]);
        }
        StoneReaders y = seven();
        for (int i = 0; i < 7; i++) {
            Due.due("down(" + i + ") of seven", y.down(i), (1 << i) - 1);
        }
    }

    private static void up() {
        StoneReaders x = tree();
        int[] want = {14, 8, 0, 0, 0};
        for (int i = 0; i < 5; i++) {
            Due.due("up(" + i + ")", x.up(i), want[i]);
        }
        StoneReaders y = seven();
        for (int i = 0; i < 7; i++) {
            Due.due("up(" + i + ") of seven", y.up(i), 127 & -(2 << i));
        }
    }

    private static void chain() {
        Due.due("chain() of none", new StoneReaders().chain(), 0);
        Due.due("chain() of one", Due.told("mouth a plain high 1 takes 1 holds 1;").chain(), 1);
        Due.due("chain() without gutters", Due.told("mouth a plain high 1 takes 1 holds 1;mouth b plain high 2 takes 1 holds 1;").chain(), 1);
        Due.due("chain() of a tree", tree().chain(), 3);
        Due.due("chain() of seven", seven().chain(), 7);
    }

    private static void sounds() {
        StoneReaders x = Due.told("mouth a plain high 1 takes 1 holds 9;mouth b plain high 1 takes 2 holds 9;rain 1 0;");
        Due.due("sounds() ahead of any", x.sounds(), 0);
        x.pour(0, 3);
        Due.due("sounds() behind a POUR", x.sounds(), 0);
        x.minute();
        Due.due("sounds()", x.sounds(), 3);
        x.stop(0);
        Due.due("sounds() behind a STOP", x.sounds(), 3);
        x.minute();
        Due.due("sounds() of nobody", x.sounds(), 0);
        x.undo();
        Due.due("sounds() behind undoing", x.sounds(), 3);
        StoneReaders all = seven();
        for (int i = 0; i < 7; i++) {
            all.pour(i, 1);
        }
        all.minute();
        Due.due("sounds() of seven", all.sounds(), 127);
        Due.frontFault(all, 0, "mouth a plain high 1 takes 1 holds 9;");
        Due.due("sounds() ahead of any of another FRONT", all.sounds(), 0);
    }

    private static void last() {
        StoneReaders x = Due.told("mouth a plain high 1 takes 1 holds 9;mouth b plain high 1 takes 0 holds 9;letter k of b;letter l of a;rain 1 0;");
        Due.due("last() ahead of any", x.last(), -1);
        x.minute();
        Due.due("last()", x.last(), 1);
        x.minute();
        Due.due("last() of nothing", x.last(), -1);
        x.pour(1, 1);
        Due.due("last() behind a POUR", x.last(), -1);
        x.minute();
        Due.due("last() of a HOLE", x.last(), 6);
        x.undo();
        x.undo();
        x.undo();
        Due.due("last() behind undoing", x.last(), 1);
        Due.frontFault(x, 0, "mouth a plain high 1 takes 1 holds 9;mouth b plain high 1 takes 1 holds 9;letter k of b;letter l of a;");
        Due.due("last() ahead of any of another FRONT", x.last(), -1);
    }

    /** By hand: p by water in a, q by water in b, r by both, a HOLE (?) by water in c. */
    static final String BY_HAND = "mouth a plain high 1 takes 0 holds 40;mouth b plain high 1 takes 0 holds 40;"
            + "mouth c plain high 1 takes 0 holds 40;letter p of a;letter q of b;letter r of a b;";

    static StoneReaders written(String signs) {
        StoneReaders x = Due.told(BY_HAND);
        for (char sign : signs.toCharArray()) {
            if (sign == 'p' || sign == 'r') {
                x.pour(0, 1);
            }
            if (sign == 'q' || sign == 'r') {
                x.pour(1, 1);
            }
            if (sign == '?') {
                x.pour(2, 1);
            }
            x.minute();
        }
        return x;
    }

    private static void often() {
        Due.due("often() of nothing", written("").often(), -1);
        Due.due("often() of HOLES alone", written("???").often(), -1);
        Due.due("often() of one", written("r").often(), 2);
        Due.due("often(): a HOLE is no LETTER", written("????q").often(), 1);
        Due.due("often() of a full slate", written("p".repeat(19) + "q".repeat(21)).often(), 1);
        Due.due("often() counts what is on the slate alone", written("p".repeat(21) + "q".repeat(25)).often(), 0);
        Due.due("often() without a FRONT", new StoneReaders().often(), -1);
    }

    private static void oftenOfEqualOnes() {
        Due.due("often() of p and q", written("pq").often(), 0);
        Due.due("often() of q and p", written("qp").often(), 0);
        Due.due("often() of r and q", written("rrqq").often(), 1);
        Due.due("often() of three", written("rqprqp").often(), 0);
    }

    private static void run40() {
        String[] signs = {"", "?", "??", "p", "?p?", "pp?ppp", "ppp?p", "pq", "qqp", "pqq", "p???p"};
        int[] want = {0, 0, 0, 1, 1, 3, 3, 1, 2, 2, 1};
        for (int i = 0; i < signs.length; i++) {
            Due.due("run() of " + signs[i], written(signs[i]).run(), want[i]);
        }
        Due.due("run() of a full slate", written("q".repeat(42)).run(), 40);
        // A MINUTE in which nothing is READ leaves no sign: those ahead and behind are one behind another.
        Due.due("run() over nothing", written("p.p..p").run(), 3);
    }

    private static void word(String signs, String word, int stands, int maybe) {
        StoneReaders x = written(signs);
        Due.word(x, word);
        Due.due("stands() of " + word + " on " + signs, x.stands(), stands);
        Due.due("maybe() of " + word + " on " + signs, x.maybe(), maybe);
    }

    private static void stands() {
        word("", "p", -1, 0);
        word("p", "p", 0, 1);
        word("qp", "p", 1, 1);
        word("pp", "p", 0, 2);
        word("p", "p p", -1, 0);
        word("qpr", "p r", 1, 1);
        word("qp", "p r", -1, 0);
        word("ppq", "p q", 1, 1);
        word("p?q", "p q", -1, 2);
        word("pqrpqr", "r p q r", 2, 1);
        word("pqrpqrp", "p q r p q r p", 0, 1);
        word("pqrpqr", "p q r p q r p", -1, 0);
        word("q".repeat(39) + "p", "q p", 38, 1);
        word("q".repeat(40) + "p", "q p", -1, 0);
        word("p" + "q".repeat(39), "p q q q q q q", 0, 1);
        word("q".repeat(33) + "p" + "q".repeat(6), "p q q q q q q", 33, 1);
        Due.due("stands() without a WORD", written("p").stands(), -1);
    }

    private static void maybe() {
        word("?", "p", -1, 1);
        word("??", "p", -1, 2);
        word("??", "p q", -1, 1);
        word("???", "p q r p", -1, 0);
        word("q?", "p q", -1, 0);
        word("?q", "p q", -1, 1);
        word("p?", "p q", -1, 1);
        word("p?p?p", "p q p", -1, 2);
        word("pqp?p", "p q p", 0, 2);
        word("?".repeat(40), "p q r p q r p", -1, 34);
        word("?".repeat(40), "q", -1, 40);
        Due.due("maybe() without a WORD", written("?").maybe(), -1);
    }

    private static void entire0To60() {
        StoneReaders x = Due.told("mouth a nest high 1 takes 1 holds 40;letter l of a;rain 0 1;sounds stands=40;");
        // l is READ in the 80th and in all behind it.
        Due.due("entire() without a WORD", x.entire(), -1);
        Due.word(x, "l l");
        Due.minutes(x, 20);
        Due.due("entire() behind 61", x.entire(), -1);
        x.minute();
        Due.due("entire() behind 60", x.entire(), 60);
        Due.minutes(x, 59);
        Due.due("entire() behind 1", x.entire(), 1);
        x.minute();
        Due.due("entire() behind 0", x.entire(), 0);
        x.minute();
        Due.due("entire() of what stands there", x.entire(), 0);
    }

    private static void entireOnAFullSlate() {
        // By hand k, 39 times; then l comes by itself as the 40th sign, or as a 41st.
        String front = "mouth a plain high 2 takes 0 holds 9;mouth b plain high 1 takes 0 holds 9;mouth n nest high 3 takes 0 holds 0;"
                + "letter k of a;letter l of b;gutter n b;rain 0;";
        StoneReaders x = Due.told(front);
        for (int i = 0; i < 39; i++) {
            x.pour(0, 1);
            x.minute();
        }
        x.pour(1, 1);
        Due.word(x, "k l");
        Due.due("when(1)", x.when(1), 1);
        Due.due("entire() as the 40th", x.entire(), 1);
        x.undo();
        x.pour(0, 1);
        x.minute();
        x.pour(1, 1);
        Due.due("when(1)", x.when(1), 1);
        Due.due("entire() as a 41st", x.entire(), -1);
    }
}
