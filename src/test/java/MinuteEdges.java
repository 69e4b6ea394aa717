/** Boundary cases of a MINUTE, of what is done by hand, and of the DAY judged: Terms 2. */
final class MinuteEdges {
    private MinuteEdges() {
    }

    static void run() {
        Edge.edge("Terms 2", "there is more by the minute's rain times what it takes", MinuteEdges::rainTimesTakes);
        Edge.edge("Terms 2", "the highest first (of equal ones by numbers)", MinuteEdges::highestFirst);
        Edge.edge("Terms 2", "what is more than it holds RUNS OVER", MinuteEdges::moreThanItHolds);
        Edge.edge("Terms 2", "into the MOUTH to which its gutter leads, at once", MinuteEdges::atOnce);
        Edge.edge("Terms 2", "else onto the path", MinuteEdges::ontoThePath);
        Edge.edge("Terms 2", "it SPOUTS what stands in it then, 3 at most", MinuteEdges::threeAtMost);
        Edge.edge("Terms 2", "a wide one 6", MinuteEdges::wideSix);
        Edge.edge("Terms 2", "a slow one 1", MinuteEdges::slowOne);
        Edge.edge("Terms 2", "one that is STOPPED nothing", MinuteEdges::stoppedNothing);
        Edge.edge("Terms 2", "that is its FLOW, and so much less stands in it", MinuteEdges::itsFlow);
        Edge.edge("Terms 2", "Each for which the E of sounds is not 0 then SOUNDS", MinuteEdges::notZeroSounds);
        Edge.edge("Terms 2", "If there is a LETTER of just these it is READ", MinuteEdges::ofJustThese);
        Edge.edge("Terms 2", "else a HOLE, if any SOUNDS", MinuteEdges::elseAHole);
        Edge.edge("Terms 2", "and nothing, if none does", MinuteEdges::nothingIfNone);
        Edge.edge("Terms 2", "what is READ, a HOLE, too, comes on the slate", MinuteEdges::aHoleToo);
        Edge.edge("Terms 2", "if that has fewer than 40", MinuteEdges::fewerThan40);
        Edge.edge("Terms 2", "It is the next minute", MinuteEdges::nextMinute);
        Edge.edge("Terms 2", "so much more stands in a MOUTH, 99 at most", MinuteEdges::ninetyNine);
        Edge.edge("Terms 2", "STOP one that is not STOPPED", MinuteEdges::stopNotStopped);
        Edge.edge("Terms 2", "CLEAR one that is (a nest, too)", MinuteEdges::clearStopped);
        Edge.edge("Terms 2", "UNDO: all of these", MinuteEdges::undoAllOfThese);
        Edge.edge("Terms 2", "the last 16", MinuteEdges::undoTheLast16);
        Edge.edge("Terms 2", "one by one", MinuteEdges::undoOneByOne);
        Edge.edge("Terms 2", "the DAY from the beginning", MinuteEdges::fromTheBeginning);
        Edge.edge("Terms 2", "a line that can't be is left out", MinuteEdges::leftOut);
        Edge.edge("Terms 2", "minute, pour always can", MinuteEdges::alwaysCan);
        Edge.edge("Terms 2", "the first line (from 0) that can't be", MinuteEdges::firstThatCant);
        Edge.edge("Terms 2", "the first one by which a LETTER is READ", MinuteEdges::firstRead);
        Edge.edge("Terms 2", "how many of the slate are HOLES at last", MinuteEdges::holesAtLast);
    }

    static void stand(StoneReaders x, int... want) {
        for (int i = 0; i < want.length; i++) {
            Due.due("mouth(" + i + ", 5) in minute " + x.count(2), x.mouth(i, 5), want[i]);
        }
    }

    static void flow(StoneReaders x, int... want) {
        for (int i = 0; i < want.length; i++) {
            Due.due("mouth(" + i + ", 7) in minute " + x.count(2), x.mouth(i, 7), want[i]);
        }
    }

    private static void rainTimesTakes() {
        StoneReaders x = Due.told("mouth a nest high 1 takes 0 holds 40;mouth b nest high 1 takes 9 holds 40;"
                + "mouth c nest high 1 takes 3 holds 40;rain 0 1 4 9;");
        x.minute();
        stand(x, 0, 0, 0);
        x.minute();
        stand(x, 0, 9, 3);
        x.minute();
        stand(x, 0, 40, 15);
        Due.due("spill(1): 81 on 40, 27 on 15", x.spill(1), 81 + 2);
    }

    private static void highestFirst() {
        // Told from the lowest up: 9 in e run down through all in the one MINUTE.
        StoneReaders x = Due.told("mouth a nest high 1 takes 0 holds 1;mouth b nest high 2 takes 0 holds 1;"
                + "mouth c nest high 3 takes 0 holds 1;mouth d nest high 19 takes 0 holds 1;mouth e nest high 20 takes 9 holds 1;"
                + "gutter e d;gutter d c;gutter c b;gutter b a;rain 1;");
        Due.due("spill(1)", x.spill(1), 4);
        x.minute();
        stand(x, 1, 1, 1, 1, 1);
        // Of equal height: both run into the one below ahead of its own turn.
        StoneReaders y = Due.told("mouth low plain high 1 takes 0 holds 40;mouth p nest high 5 takes 2 holds 0;"
                + "mouth q nest high 5 takes 3 holds 0;gutter q low;gutter p low;rain 1;");
        y.minute();
        flow(y, 3, 0, 0);
        stand(y, 2, 0, 0);
    }

    private static void moreThanItHolds() {
        StoneReaders x = Due.told("mouth a nest high 1 takes 4 holds 4;rain 1 0 0;");
        x.minute();
        stand(x, 4);
        x.undo();
        Due.due("over(0) by just what it holds", x.over(0), 4);
        x.pour(0, 1);
        Due.due("over(0) by one more", x.over(0), 1);
        Due.due("spill(1) by one more", x.spill(1), 1);
        x.minute();
        stand(x, 4);
        // 0 held: all runs over; 40 held.
        StoneReaders y = Due.told("mouth a wide high 1 takes 1 holds 0;mouth b nest high 1 takes 8 holds 40;rain 5 0;");
        Due.due("spill(1)", y.spill(1), 5);
        Due.due("over(1)", y.over(1), 3);
        y.minute();
        stand(y, 0, 40);
        flow(y, 0, 0);
    }

    private static void atOnce() {
        StoneReaders x = Due.told("mouth a plain high 2 takes 5 holds 2;mouth b slow high 1 takes 0 holds 9;gutter a b;"
                + "letter l of a b;rain 1 0;");
        Due.due("minute()", x.minute(), 0);
        // 2 are spouted by a, 3 came to b, of which 1 is spouted.
        stand(x, 0, 2);
        flow(x, 2, 1);
    }

    private static void ontoThePath() {
        StoneReaders x = Due.told("mouth a nest high 2 takes 5 holds 2;mouth b nest high 1 takes 4 holds 9;rain 1;");
        Due.due("spill(1) without a gutter", x.spill(1), 3);
        x.minute();
        stand(x, 2, 4);
        StoneReaders y = Due.told("mouth a nest high 2 takes 5 holds 2;mouth b nest high 1 takes 4 holds 9;gutter a b;rain 1;");
        Due.due("spill(1) with a gutter", y.spill(1), 0);
        Due.due("spill(2) with a gutter", y.spill(2), 3 + 4 + 5 + 4 - 9);
        // What is spouted does not count as what runs over.
        StoneReaders z = Due.told("mouth a plain high 2 takes 3 holds 3;rain 1;");
        Due.due("spill(60) of a spouting one", z.spill(60), 0);
    }

    private static void spouts(String kind, int most) {
        StoneReaders x = Due.told("mouth a " + kind + " high 1 takes 0 holds 40;");
        for (int water = 0; water <= most; water++) {
            if (water > 0) {
                x.pour(0, water);
            }
            x.minute();
            flow(x, water);
            stand(x, 0);
        }
        x.pour(0, most + 1);
        x.minute();
        flow(x, most);
        stand(x, 1);
        x.pour(0, 20);
        x.minute();
        flow(x, most);
        stand(x, 21 - most);
    }

    private static void threeAtMost() {
        spouts("plain", 3);
        StoneReaders x = Due.told("mouth a nest high 1 takes 0 holds 40;");
        x.clear(0);
        x.pour(0, 7);
        for (int flow : new int[] {3, 3, 1, 0}) {
            x.minute();
            flow(x, flow);
        }
        // What stands in it then, behind running over: 2 of 9.
        StoneReaders y = Due.told("mouth a plain high 1 takes 9 holds 2;rain 1;");
        y.minute();
        flow(y, 2);
        stand(y, 0);
    }

    private static void wideSix() {
        spouts("wide", 6);
    }

    private static void slowOne() {
        spouts("slow", 1);
    }

    private static void stoppedNothing() {
        StoneReaders x = Due.told("mouth a plain high 1 takes 2 holds 9;mouth b wide high 1 takes 2 holds 9;"
                + "mouth c slow high 1 takes 2 holds 9;mouth d nest high 1 takes 2 holds 9;letter l of a;rain 1;");
        x.stop(1);
        x.stop(2);
        Due.due("minute()", x.minute(), 0);
        flow(x, 2, 0, 0, 0);
        stand(x, 0, 2, 2, 2);
        x.stop(0);
        x.clear(1);
        x.clear(2);
        x.clear(3);
        x.minute();
        flow(x, 0, 4, 1, 3);
        stand(x, 2, 0, 3, 1);
    }

    private static void itsFlow() {
        StoneReaders x = Due.told("mouth a wide high 1 takes 0 holds 40;");
        Due.due("mouth(0, 7) ahead of any", x.mouth(0, 7), 0);
        x.pour(0, 20);
        Due.due("mouth(0, 7) behind a POUR", x.mouth(0, 7), 0);
        x.minute();
        flow(x, 6);
        stand(x, 14);
        x.stop(0);
        Due.due("mouth(0, 7) stays behind a STOP", x.mouth(0, 7), 6);
        x.minute();
        flow(x, 0);
        stand(x, 14);
    }

    private static void notZeroSounds() {
        // 1, 0 and -1 of an E.
        StoneReaders x = Due.told("mouth a plain high 3 takes 0 holds 1;mouth b plain high 2 takes 0 holds 1;"
                + "mouth c plain high 1 takes 0 holds 1;letter l of a c;sounds tall-2;");
        Due.due("minute()", x.minute(), 0);
        Due.due("sounds()", x.sounds(), 5);
        // flow, stands and wet are those of this MINUTE, not of the one before.
        StoneReaders y = Due.told("mouth a slow high 3 takes 1 holds 9;rain 2 0 0;sounds stands=1 and flow=1 and wet=2;");
        y.minute();
        Due.due("sounds() by the first", y.sounds(), 1);
        y.minute();
        Due.due("sounds() by the second", y.sounds(), 0);
    }

    private static StoneReaders three() {
        return Due.told("mouth a plain high 3 takes 0 holds 9;mouth b plain high 2 takes 0 holds 9;"
                + "mouth c plain high 1 takes 0 holds 9;letter l of a b;letter m of c;letter n of b;");
    }

    private static int readBy(StoneReaders x, int bits) {
        for (int i = 0; i < 3; i++) {
            if ((bits >> i & 1) != 0) {
                x.pour(i, 1);
            }
        }
        return x.minute();
    }

    private static void ofJustThese() {
        StoneReaders x = three();
        int[] want = {-1, 6, 2, 0, 1, 6, 6, 6};
        for (int bits = 0; bits < 8; bits++) {
            Due.due("minute() by " + bits, readBy(x, bits), want[bits]);
            Due.due("last() by " + bits, x.last(), want[bits]);
            Due.due("sounds() by " + bits, x.sounds(), bits);
        }
    }

    private static void elseAHole() {
        StoneReaders x = three();
        Due.due("minute() by one of two", readBy(x, 1), 6);
        Due.due("minute() by two and one more", readBy(x, 7), 6);
        StoneReaders none = Due.told("mouth a plain high 1 takes 1 holds 9;rain 1;");
        Due.due("minute() without LETTERS", none.minute(), 6);
    }

    private static void nothingIfNone() {
        StoneReaders x = three();
        Due.due("minute()", x.minute(), -1);
        Due.due("count(6)", x.count(6), 0);
        readBy(x, 4);
        Due.due("minute() behind one", x.minute(), -1);
        Due.due("last()", x.last(), -1);
        Due.due("sounds()", x.sounds(), 0);
        Due.due("count(6)", x.count(6), 1);
    }

    private static void aHoleToo() {
        StoneReaders x = three();
        readBy(x, 1);
        readBy(x, 3);
        x.minute();
        readBy(x, 7);
        int[] want = {6, 0, 6, -1};
        for (int i = 0; i < 4; i++) {
            Due.due("slate(" + i + ")", x.slate(i), want[i]);
        }
        Due.due("count(6)", x.count(6), 3);
        Due.due("count(7)", x.count(7), 2);
    }

    private static void fewerThan40() {
        StoneReaders x = three();
        for (int i = 0; i < 39; i++) {
            readBy(x, 1);
        }
        Due.due("count(6) of 39", x.count(6), 39);
        readBy(x, 3);
        Due.due("count(6) of 40", x.count(6), 40);
        Due.due("slate(39)", x.slate(39), 0);
        Due.due("minute() beyond 40", readBy(x, 4), 1);
        Due.due("minute() of a HOLE beyond 40", readBy(x, 7), 6);
        Due.due("last() beyond 40", x.last(), 6);
        Due.due("sounds() beyond 40", x.sounds(), 7);
        Due.due("count(6) beyond 40", x.count(6), 40);
        Due.due("count(7) beyond 40", x.count(7), 39);
        Due.due("slate(39) stays", x.slate(39), 0);
        Due.due("slate(40)", x.slate(40), -1);
    }

    private static void nextMinute() {
        StoneReaders x = Due.told("mouth a plain high 1 takes 1 holds 9;rain 3 0 2;");
        int[] rain = {3, 0, 2, 3};
        for (int i = 0; i < 4; i++) {
            Due.due("count(2)", x.count(2), i);
            Due.due("count(3)", x.count(3), rain[i]);
            x.minute();
            flow(x, rain[i]);
        }
    }

    private static void ninetyNine() {
        StoneReaders x = Due.told("mouth a nest high 1 takes 0 holds 40;mouth b nest high 1 takes 0 holds 40;");
        for (int i = 1; i <= 4; i++) {
            Due.due("pour(0, 20)", x.pour(0, 20), 20 * i);
        }
        Due.due("pour(0, 18) to 98", x.pour(0, 18), 98);
        Due.due("pour(0, 1) to 99", x.pour(0, 1), 99);
        Due.due("pour(0, 1) at 99", x.pour(0, 1), 99);
        Due.due("pour(0, 20) at 99", x.pour(0, 20), 99);
        stand(x, 99, 0);
        Due.due("count(4)", x.count(4), 99);
        for (int i = 1; i <= 4; i++) {
            x.pour(1, 20);
        }
        Due.due("pour(1, 20) from 80", x.pour(1, 20), 99);
        Due.due("count(4) of both", x.count(4), 198);
        Due.due("spill(1)", x.spill(1), 59 + 59);
        // By a gutter there may be more than 99.
        StoneReaders y = Due.told("mouth a nest high 2 takes 9 holds 0;mouth b nest high 1 takes 9 holds 40;gutter a b;rain 9;");
        for (int i = 0; i < 5; i++) {
            y.pour(0, 20);
            y.pour(1, 20);
        }
        Due.due("spill(1) of 99 and 99 and 81 and 81", y.spill(1), 99 + 99 + 81 + 81 - 40);
    }

    private static void stopNotStopped() {
        StoneReaders x = Due.told("mouth a plain high 1 takes 0 holds 9;mouth n nest high 1 takes 0 holds 9;");
        Due.due("stop(0)", x.stop(0), true);
        Due.due("stop(0) again", x.stop(0), false);
        Due.due("stop(1) of a nest", x.stop(1), false);
        Due.due("count(5)", x.count(5), 3);
        Due.due("count(11): one was done", x.count(11), 1);
        x.clear(1);
        Due.due("stop(1) of a nest that is CLEARED", x.stop(1), true);
    }

    private static void clearStopped() {
        StoneReaders x = Due.told("mouth a plain high 1 takes 0 holds 9;mouth n nest high 1 takes 0 holds 9;");
        Due.due("clear(0)", x.clear(0), false);
        Due.due("count(11)", x.count(11), 0);
        Due.due("clear(1) of a nest", x.clear(1), true);
        Due.due("clear(1) again", x.clear(1), false);
        Due.due("count(5)", x.count(5), 0);
        Due.due("count(11): one was done", x.count(11), 1);
        x.stop(0);
        Due.due("clear(0) of one STOPPED", x.clear(0), true);
    }

    private static void undoAllOfThese() {
        StoneReaders x = Due.told("mouth a plain high 1 takes 2 holds 9;mouth n nest high 1 takes 0 holds 9;letter l of a;rain 1 5;");
        x.minute();
        Due.due("undo() of minute()", x.undo(), true);
        Due.due("count(2)", x.count(2), 0);
        Due.due("count(6)", x.count(6), 0);
        Due.due("sounds()", x.sounds(), 0);
        Due.due("last()", x.last(), -1);
        flow(x, 0, 0);
        stand(x, 0, 0);
        x.pour(0, 20);
        Due.due("undo() of pour()", x.undo(), true);
        stand(x, 0, 0);
        x.stop(0);
        Due.due("undo() of stop()", x.undo(), true);
        Due.due("count(5)", x.count(5), 2);
        x.clear(1);
        Due.due("undo() of clear()", x.undo(), true);
        Due.due("count(5)", x.count(5), 2);
        Due.due("undo() of nothing", x.undo(), false);
        // What is refused, asked, told or seen is none of these.
        x.pour(0, 21);
        x.stop(1);
        x.clear(0);
        x.see(0, true);
        x.mark(0, false);
        x.later(0, 5);
        x.days(1, 1, 0);
        Due.day(x, "minute;");
        Due.word(x, "l");
        Due.due("count(11)", x.count(11), 0);
        Due.due("undo()", x.undo(), false);
    }

    private static void undoTheLast16() {
        StoneReaders x = Due.told("mouth a nest high 1 takes 0 holds 40;");
        for (int i = 1; i <= 20; i++) {
            x.pour(0, 1);
            Due.due("count(11) behind " + i, x.count(11), Math.min(i, 16));
        }
        for (int i = 1; i <= 16; i++) {
            Due.due("undo() " + i, x.undo(), true);
            Due.due("mouth(0, 5)", x.mouth(0, 5), 20 - i);
            Due.due("count(11)", x.count(11), 16 - i);
        }
        Due.due("undo() of a seventeenth", x.undo(), false);
        stand(x, 4);
        // Just 16, behind a turn of the ring.
        for (int i = 0; i < 16; i++) {
            x.pour(0, 1);
        }
        for (int i = 0; i < 16; i++) {
            Due.due("undo() of just 16", x.undo(), true);
        }
        Due.due("undo() behind just 16", x.undo(), false);
        stand(x, 4);
    }

    private static void undoOneByOne() {
        StoneReaders x = Due.told("mouth a plain high 1 takes 0 holds 40;letter l of a;");
        x.pour(0, 5);
        x.minute();
        x.stop(0);
        x.pour(0, 2);
        x.undo();
        stand(x, 2);
        Due.due("count(5)", x.count(5), 1);
        x.undo();
        Due.due("count(5)", x.count(5), 0);
        Due.due("count(2)", x.count(2), 1);
        x.undo();
        stand(x, 5);
        Due.due("count(6)", x.count(6), 0);
        // Others may be done in between.
        x.pour(0, 1);
        Due.due("count(11)", x.count(11), 2);
        x.undo();
        stand(x, 5);
        x.undo();
        stand(x, 0);
        Due.due("undo() of nothing", x.undo(), false);
    }

    private static final String PAIR = "mouth a plain high 2 takes 1 holds 9;mouth n nest high 1 takes 1 holds 9;"
            + "letter l of a;letter m of a n;letter k of n;rain 1 0 0;";

    private static void fromTheBeginning() {
        StoneReaders x = Due.told(PAIR);
        Due.day(x, "stop n;minute;clear n;minute;minute;");
        int[] want = {0, 1, 0};
        for (int times = 0; times < 2; times++) {
            for (int what = 0; what < 3; what++) {
                Due.due("judged(" + what + ")", x.judged(what), want[what]);
            }
            // However it is now, the DAY begins in minute 0 with nests alone STOPPED and nothing standing.
            x.clear(1);
            x.stop(0);
            x.pour(0, 20);
            x.pour(1, 20);
            Due.minutes(x, 4);
        }
        Due.due("count(2)", x.count(2), 8);
        Due.due("count(5)", x.count(5), 1);
    }

    private static void leftOut() {
        StoneReaders x = Due.told(PAIR);
        // The second stop does not clear, the second clear does not stop.
        Due.day(x, "stop a;stop a;minute;clear n;clear n;minute;");
        Due.due("judged(0)", x.judged(0), 1);
        Due.due("judged(1)", x.judged(1), 5);
        Due.due("judged(2)", x.judged(2), 0);
    }

    private static void alwaysCan() {
        StoneReaders x = Due.told(PAIR);
        Due.day(x, "pour n 20;".repeat(7) + "minute;".repeat(33));
        Due.due("judged(0)", x.judged(0), -1);
        // 99 at most: behind them 9 stay in n, of which 3 are spouted when it's CLEARED.
        StoneReaders y = Due.told("mouth a nest high 2 takes 0 holds 0;mouth b slow high 1 takes 0 holds 40;gutter a b;letter l of b;");
        Due.day(y, "pour a 20;".repeat(6) + "minute;");
        Due.due("judged(0) at 99", y.judged(0), -1);
        Due.due("judged(1) at 99", y.judged(1), 6);
    }

    private static void firstThatCant() {
        StoneReaders x = Due.told(PAIR);
        Due.day(x, "clear a;stop n;");
        Due.due("judged(0), the first", x.judged(0), 0);
        Due.day(x, "minute;pour a 1;clear n;clear n;clear n;");
        Due.due("judged(0), the fourth", x.judged(0), 3);
        Due.day(x, "clear n;stop n;stop a;clear a;");
        Due.due("judged(0), none", x.judged(0), -1);
        Due.day(x, "minute;".repeat(39) + "stop n;");
        Due.due("judged(0), the last of 40", x.judged(0), 39);
    }

    private static void firstRead() {
        StoneReaders x = Due.told(PAIR);
        Due.day(x, "minute;minute;");
        Due.due("judged(1), the first", x.judged(1), 0);
        Due.day(x, "minute;pour a 1;minute;pour a 1;minute;");
        Due.due("judged(1), the first of three", x.judged(1), 0);
        Due.day(x, "stop a;stop a;clear n;minute;");
        Due.due("judged(1) counts lines that are left out", x.judged(1), 3);
        Due.day(x, "stop a;minute;minute;");
        Due.due("judged(1), none", x.judged(1), -1);
        StoneReaders holes = Due.told("mouth a plain high 2 takes 1 holds 9;mouth b plain high 2 takes 0 holds 9;letter l of b;rain 1 0;");
        Due.day(holes, "minute;pour b 1;minute;");
        Due.due("judged(1): a HOLE is no LETTER", holes.judged(1), 2);
    }

    private static void holesAtLast() {
        StoneReaders x = Due.told("mouth a plain high 2 takes 1 holds 9;mouth b plain high 2 takes 0 holds 9;letter l of b;rain 1;");
        Due.day(x, "minute;".repeat(40));
        Due.due("judged(2) of 40", x.judged(2), 40);
        Due.day(x, "minute;stop a;minute;pour b 1;minute;clear a;minute;");
        Due.due("judged(2) of some", x.judged(2), 2);
        Due.day(x, "stop a;minute;");
        Due.due("judged(2) of none", x.judged(2), 0);
        Due.day(x, "");
        Due.due("judged(2) of no lines", x.judged(2), 0);
        // The slate of the DAY is empty at first, whatever is on it now.
        Due.minutes(x, 40);
        Due.day(x, "minute;");
        Due.due("judged(2) with a full slate", x.judged(2), 1);
        Due.due("count(7)", x.count(7), 40);
    }
}
