/** Promises 6 to 13, 27, 28, 42 and 43: what is done by hand, undone and marked, and what stands then. */
public final class HandTest {
    /** Told with the lowest ahead of the others, so that the order is by height alone. */
    private static final String THREE = "mouth lo plain high 1 takes 1 holds 4;"
            + "mouth hi wide high 5 takes 2 holds 6;mouth md slow high 3 takes 0 holds 2;"
            + "gutter hi md;gutter md lo;"
            + "letter all of lo hi md;letter two of hi lo;letter one of lo;rain 4 0 1;";

    public static void main(String[] args) {
        mouthTells();
        minutePasses();
        runningOver();
        kindsSpout();
        soundsByLaw();
        lawArithmetic();
        slateFills();
        pours();
        stopsAndClears();
        undoes();
        marks();
        marksHoldEachPart();
        marksHoldPouredWater();
        marksHoldSights();
        undoGivesTheSlateBack();
        Due.end();
    }

    private static void mouthTells() {
        StoneReaders x = Due.told(THREE);
        Due.due("mouth(1, 0)", x.mouth(1, 0), 1);
        Due.due("mouth(1, 1)", x.mouth(1, 1), 5);
        Due.due("mouth(1, 2)", x.mouth(1, 2), 2);
        Due.due("mouth(1, 3)", x.mouth(1, 3), 6);
        Due.due("mouth(1, 4)", x.mouth(1, 4), 2);
        Due.due("mouth(0, 4)", x.mouth(0, 4), -1);
        Due.due("mouth(1, 5)", x.mouth(1, 5), 0);
        Due.due("mouth(1, 6)", x.mouth(1, 6), 0);
        Due.due("mouth(1, 7)", x.mouth(1, 7), 0);
        Due.due("mouth(1, 8)", x.mouth(1, 8), -2);
        Due.due("mouth(1, -1)", x.mouth(1, -1), -2);
        Due.due("mouth(3, 0)", x.mouth(3, 0), -2);
        Due.due("mouth(-1, 0)", x.mouth(-1, 0), -2);
    }

    private static void minutePasses() {
        StoneReaders x = Due.told(THREE);
        Due.due("sounds() ahead", x.sounds(), 0);
        Due.due("last() ahead", x.last(), -1);
        Due.due("minute() 0", x.minute(), 0);
        stand(x, 1, 0, 1);
        flow(x, 3, 6, 1);
        Due.due("sounds()", x.sounds(), 7);
        Due.due("last()", x.last(), 0);
        Due.due("count(2)", x.count(2), 1);
        Due.due("count(3)", x.count(3), 0);
        Due.due("count(4)", x.count(4), 2);
        Due.due("minute() 1", x.minute(), 6);
        stand(x, 0, 0, 0);
        flow(x, 1, 0, 1);
        Due.due("sounds()", x.sounds(), 5);
        Due.due("last()", x.last(), 6);
        Due.due("minute() 2", x.minute(), 1);
        flow(x, 1, 2, 0);
        Due.due("sounds()", x.sounds(), 3);
        Due.due("minute() 3", x.minute(), 0);
        int[] slate = {0, 6, 1, 0, -1};
        for (int i = 0; i < slate.length; i++) {
            Due.due("slate(" + i + ")", x.slate(i), slate[i]);
        }
        Due.due("slate(-1)", x.slate(-1), -1);
        Due.due("count(6)", x.count(6), 4);
        Due.due("count(7)", x.count(7), 1);
        StoneReaders dry = Due.told("mouth a plain high 1 takes 9 holds 1;letter l of a;rain 0;");
        Due.due("minute() of no rain", dry.minute(), -1);
        Due.due("last() of no rain", dry.last(), -1);
        Due.due("count(6) of no rain", dry.count(6), 0);
        Due.due("count(2) of no rain", dry.count(2), 1);
    }

    private static void stand(StoneReaders x, int... want) {
        for (int i = 0; i < want.length; i++) {
            Due.due("mouth(" + i + ", 5) in minute " + x.count(2), x.mouth(i, 5), want[i]);
        }
    }

    private static void flow(StoneReaders x, int... want) {
        for (int i = 0; i < want.length; i++) {
            Due.due("mouth(" + i + ", 7) in minute " + x.count(2), x.mouth(i, 7), want[i]);
        }
    }

    private static void runningOver() {
        // 18 in a, of which 16 go on to b, 15 of these to c, and 13 from there onto the path.
        StoneReaders x = Due.told("mouth c slow high 1 takes 0 holds 2;mouth b nest high 2 takes 0 holds 1;"
                + "mouth a plain high 3 takes 9 holds 2;gutter a b;gutter b c;rain 2;");
        Due.due("spill(1)", x.spill(1), 13);
        x.minute();
        stand(x, 1, 1, 0);
        flow(x, 1, 0, 2);
        x.minute();
        stand(x, 1, 1, 0);
        // What stands in it may be as much as it holds: nothing runs over then.
        StoneReaders y = Due.told("mouth a nest high 3 takes 2 holds 4;rain 2 0;");
        x.minute();
        Due.due("spill(2) of just what it holds", y.spill(2), 0);
        Due.due("spill(3) of more", y.spill(3), 4);
        Due.due("over(0)", y.over(0), 3);
        // Holding nothing, it spouts nothing.
        StoneReaders z = Due.told("mouth a wide high 3 takes 2 holds 0;rain 2;");
        Due.due("minute() of a MOUTH that holds nothing", z.minute(), -1);
        flow(z, 0);
        stand(z, 0);
    }

    private static void kindsSpout() {
        StoneReaders x = Due.told("mouth a plain high 1 takes 9 holds 40;mouth b wide high 1 takes 9 holds 40;"
                + "mouth c slow high 1 takes 9 holds 40;mouth d nest high 1 takes 9 holds 40;rain 1;");
        Due.due("count(5)", x.count(5), 8);
        x.minute();
        flow(x, 3, 6, 1, 0);
        stand(x, 6, 3, 8, 9);
        Due.due("clear(3)", x.clear(3), true);
        Due.due("stop(1)", x.stop(1), true);
        x.minute();
        flow(x, 3, 0, 1, 3);
        stand(x, 12, 12, 16, 15);
        Due.due("sounds()", x.sounds(), 13);
    }

    private static int soundsOf(String law) {
        // In the one MINUTE: flow 3, stands 3, tall 7, wet 2, and 0, 4, 2, 2 of the nest.
        StoneReaders x = Due.told("mouth a plain high 7 takes 3 holds 40;mouth b nest high 2 takes 2 holds 40;"
                + "rain 2;" + law);
        x.minute();
        return x.sounds();
    }

    private static void soundsByLaw() {
        Due.due("without sounds", soundsOf(""), 1);
        Due.due("flow", soundsOf("sounds flow;"), 1);
        Due.due("stands", soundsOf("sounds stands;"), 3);
        Due.due("stands = 3", soundsOf("sounds stands = 3;"), 1);
        Due.due("stands = 4", soundsOf("sounds stands = 4;"), 2);
        Due.due("tall < 7", soundsOf("sounds tall < 7;"), 2);
        Due.due("tall = 7", soundsOf("sounds tall = 7;"), 1);
        Due.due("wet = 2", soundsOf("sounds wet = 2;"), 3);
        Due.due("wet - 2", soundsOf("sounds wet - 2;"), 0);
        Due.due("not flow", soundsOf("sounds not flow;"), 2);
        Due.due("0 - flow", soundsOf("sounds 0 - flow;"), 1);
        Due.due("flow = wet + 1", soundsOf("sounds flow = wet + 1;"), 1);
    }

    private static void is(String e, int value) {
        Due.due(e + " = " + value, soundsOf("sounds (" + e + ") = 0" + (value < 0 ? "-" + -value : "+" + value) + ";"), 3);
    }

    private static void lawArithmetic() {
        is("2+3*4", 14);
        is("(2+3)*4", 20);
        is("9-4-3", 2);
        is("9-(4-3)", 8);
        is("2-3", -1);
        is("1<2", 1);
        is("2<2", 0);
        is("2=2", 1);
        is("1+1=2", 1);
        is("5 and 7", 1);
        is("5 and 0", 0);
        is("0 or 7", 1);
        is("0 or 0", 0);
        is("1 or 1 and 0", 0);
        is("0 and 0 or 1", 1);
        is("1 or (1 and 0)", 1);
        is("not 5", 0);
        is("not 0", 1);
        is("not 0*3", 3);
        is("not 0+1", 2);
        is("not not 7", 1);
        is("not (3<2)", 1);
        is("not 1<2", 1);
        is("(7)", 7);
        is("1<2 and 3<2", 0);
        is("1<2 or 3<2", 1);
        // 9999 to the third wraps.
        Due.due("wrap", soundsOf("sounds 9999*9999*9999 = (9999*9999)*9999;"), 3);
        Due.due("wrap below 0", soundsOf("sounds 9999*9999*9999 < 0;"), 9999 * 9999 * 9999 < 0 ? 3 : 0);
        Due.due("wrap to 0", soundsOf("sounds 4096*4096*256;"), 0);
        Due.due("wrap of a sum", soundsOf("sounds 8192*8192*31+8192*8192 < 0;"), 3);
        Due.due("deep", soundsOf("sounds 1 and 1<1+1*(1 and 1<1+1*(1 and 1<1+1*(1 and 1<1+1*(1 and 1<1+1*1))));"), 3);
    }

    private static void slateFills() {
        StoneReaders x = Due.told("mouth a plain high 1 takes 1 holds 9;mouth b plain high 1 takes 0 holds 9;"
                + "letter l of a;letter m of a b;rain 1;");
        for (int i = 0; i < 40; i++) {
            Due.due("count(6)", x.count(6), i);
            Due.due("minute()", x.minute(), 0);
        }
        x.pour(1, 1);
        Due.due("minute() beyond 40", x.minute(), 1);
        Due.due("last() beyond 40", x.last(), 1);
        Due.due("count(6) beyond 40", x.count(6), 40);
        Due.due("slate(39)", x.slate(39), 0);
        Due.due("slate(40)", x.slate(40), -1);
    }

    private static void pours() {
        StoneReaders x = Due.told(THREE);
        Due.due("pour(0, 1)", x.pour(0, 1), 1);
        Due.due("pour(0, 20)", x.pour(0, 20), 21);
        Due.due("pour(0, 0)", x.pour(0, 0), -1);
        Due.due("pour(0, 21)", x.pour(0, 21), -1);
        Due.due("pour(0, -1)", x.pour(0, -1), -1);
        Due.due("pour(3, 1)", x.pour(3, 1), -1);
        Due.due("pour(-1, 1)", x.pour(-1, 1), -1);
        for (int i = 0; i < 3; i++) {
            x.pour(0, 20);
        }
        Due.due("pour(0, 20) to 99", x.pour(0, 20), 99);
        Due.due("pour(0, 1) at 99", x.pour(0, 1), 99);
        Due.due("mouth(0, 5)", x.mouth(0, 5), 99);
        Due.due("count(4)", x.count(4), 99);
        Due.due("count(11)", x.count(11), 7);
        Due.due("spill(1)", x.spill(1), 99);
    }

    private static void stopsAndClears() {
        StoneReaders x = Due.told(THREE + "mouth n nest high 9 takes 1 holds 9;");
        Due.due("clear(0)", x.clear(0), false);
        Due.due("stop(3)", x.stop(3), false);
        Due.due("count(11) behind what can't be", x.count(11), 0);
        Due.due("stop(0)", x.stop(0), true);
        Due.due("stop(0) again", x.stop(0), false);
        Due.due("mouth(0, 6)", x.mouth(0, 6), 1);
        Due.due("count(5)", x.count(5), 9);
        Due.due("clear(3)", x.clear(3), true);
        Due.due("clear(3) again", x.clear(3), false);
        Due.due("stop(3)", x.stop(3), true);
        Due.due("clear(0)", x.clear(0), true);
        Due.due("count(5)", x.count(5), 8);
        Due.due("stop(4)", x.stop(4), false);
        Due.due("stop(-1)", x.stop(-1), false);
        Due.due("clear(4)", x.clear(4), false);
        Due.due("clear(-1)", x.clear(-1), false);
        Due.due("stop(35)", x.stop(35), false);
        Due.due("clear(35)", x.clear(35), false);
    }

    private static void undoes() {
        StoneReaders x = Due.told(THREE);
        x.minute();
        x.pour(2, 5);
        x.stop(1);
        x.clear(1);
        Due.due("minute()", x.minute(), 6);
        Due.due("count(11)", x.count(11), 5);
        Due.due("undo() of a MINUTE", x.undo(), true);
        stand(x, 1, 0, 6);
        flow(x, 3, 6, 1);
        Due.due("count(2)", x.count(2), 1);
        Due.due("count(6)", x.count(6), 1);
        Due.due("sounds()", x.sounds(), 7);
        Due.due("last()", x.last(), 0);
        Due.due("undo() of a CLEAR", x.undo(), true);
        Due.due("count(5)", x.count(5), 2);
        Due.due("undo() of a STOP", x.undo(), true);
        Due.due("count(5)", x.count(5), 0);
        Due.due("undo() of a POUR", x.undo(), true);
        stand(x, 1, 0, 1);
        Due.due("undo() of the first MINUTE", x.undo(), true);
        stand(x, 0, 0, 0);
        flow(x, 0, 0, 0);
        Due.due("last() behind it", x.last(), -1);
        Due.due("count(6) behind it", x.count(6), 0);
        Due.due("undo() of nothing", x.undo(), false);
        Due.minutes(x, 20);
        Due.due("count(11) of 20", x.count(11), 16);
        for (int i = 0; i < 16; i++) {
            Due.due("undo() " + i, x.undo(), true);
        }
        Due.due("undo() 16", x.undo(), false);
        Due.due("count(2) behind 16", x.count(2), 4);
        Due.due("count(6) behind 16", x.count(6), 4);
        x.see(0, true);
        Due.word(x, "one");
        Due.day(x, "minute;");
        x.mark(0, false);
        Due.due("see, word, day and mark are not undone", x.undo(), false);
        x.minute();
        Due.due("undo()", x.undo(), true);
        Due.due("what is SEEN stays", x.count(10), 1);
        Due.due("the WORD stays", x.count(9), 1);
        Due.due("the DAY stays", x.count(8), 1);
        Due.due("the MARK stays", x.mark(0, true), true);
    }

    private static void marks() {
        StoneReaders x = Due.told(THREE);
        Due.due("mark(4, false)", x.mark(4, false), false);
        Due.due("mark(-1, false)", x.mark(-1, false), false);
        Due.due("mark(4, true)", x.mark(4, true), false);
        Due.due("mark(3, true)", x.mark(3, true), false);
        x.minute();
        x.pour(2, 5);
        x.stop(1);
        Due.day(x, "minute;stop lo;");
        Due.word(x, "one two one");
        x.see(1, false);
        Due.due("mark(3, false)", x.mark(3, false), true);
        Due.due("count(11) behind laying", x.count(11), 3);
        x.clear(1);
        Due.minutes(x, 3);
        Due.day(x, "clear lo;minute;minute;");
        Due.word(x, "all");
        x.see(0, true);
        x.see(2, true);
        Due.feed(x, "left");
        for (int times = 0; times < 2; times++) {
            Due.due("mark(3, true)", x.mark(3, true), true);
            int[] want = {3, 3, 1, 0, 7, 2, 1, 0, 2, 3, 1, 0, 4};
            for (int what = 0; what <= 12; what++) {
                Due.due("gone back: count(" + what + ")", x.count(what), want[what]);
            }
            stand(x, 1, 0, 6);
            flow(x, 3, 6, 1);
            Due.due("gone back: sounds()", x.sounds(), 7);
            Due.due("gone back: last()", x.last(), 0);
            Due.due("gone back: slate(0)", x.slate(0), 0);
            Due.due("gone back: undo()", x.undo(), false);
            Due.due("gone back: judged(0)", x.judged(0), -1);
            Due.due("mark(2, true)", x.mark(2, true), false);
            // What is done from here on leaves the MARK alone.
            x.minute();
            x.see(0, true);
            Due.due("count(11)", x.count(11), 1);
        }
        x.mark(3, false);
        Due.minutes(x, 2);
        x.mark(3, true);
        Due.due("a MARK laid anew", x.count(2), 2);
    }

    /** All that was on a MARK is told otherwise in between, place by place. */
    private static void marksHoldEachPart() {
        StoneReaders x = Due.told("mouth a plain high 2 takes 0 holds 9;mouth b plain high 1 takes 0 holds 9;"
                + "letter p of a;letter q of b;");
        Due.day(x, "pour b 1;minute;stop a;stop a;");
        Due.word(x, "p q");
        x.see(1, false);
        x.pour(0, 1);
        x.minute();
        x.pour(1, 1);
        x.minute();
        x.mark(1, false);
        Due.day(x, "pour a 9;minute;stop b;minute;minute;");
        Due.word(x, "q p");
        for (int i = 0; i < 2; i++) {
            x.undo();
            x.undo();
        }
        x.pour(1, 4);
        Due.minutes(x, 3);
        x.mark(2, false);
        Due.due("slate in between", x.slate(0), 1);
        Due.due("mark(1, true)", x.mark(1, true), true);
        Due.due("slate(0) is back", x.slate(0), 0);
        Due.due("slate(1) is back", x.slate(1), 1);
        Due.due("count(6) is back", x.count(6), 2);
        Due.due("stands() is back", x.stands(), 0);
        Due.due("judged(0) is back", x.judged(0), 3);
        Due.due("judged(1) is back", x.judged(1), 1);
        Due.due("rains() is back", x.rains(), 1023);
        Due.frontFault(x, 1, "^oops");
        Due.due("mark(2, true)", x.mark(2, true), true);
        Due.due("slate(0) of the other MARK", x.slate(0), 1);
        Due.due("stands() of the other MARK", x.stands(), -1);
        Due.due("judged(0) of the other MARK", x.judged(0), -1);
        Due.due("judged(1) of the other MARK", x.judged(1), 1);
    }

    private static void marksHoldPouredWater() {
        StoneReaders x = Due.told("mouth a plain high 2 takes 0 holds 9;mouth b plain high 1 takes 0 holds 9;");
        Due.day(x, "pour a 3;minute;minute;minute;");
        x.mark(0, false);
        Due.day(x, "pour a 9;minute;minute;minute;");
        Due.due("judged(2) of 9", x.judged(2), 3);
        x.mark(0, true);
        Due.due("judged(2) of 3", x.judged(2), 1);
    }

    private static void marksHoldSights() {
        StoneReaders x = Due.told("mouth a plain high 2 takes 1 holds 40;mouth b plain high 1 takes 2 holds 40;"
                + "sounds 3<stands+flow;");
        // a sounds by a rain of 4 and more, b by one of 2 and more.
        x.mark(0, false);
        x.see(0, false);
        x.see(1, true);
        x.mark(1, false);
        x.mark(0, true);
        Due.due("count(10) ahead of them", x.count(10), 0);
        x.see(1, false);
        x.see(0, false);
        Due.due("rains() by others", x.rains(), 3);
        x.mark(1, true);
        Due.due("rains() is back", x.rains(), 12);
    }

    private static void undoGivesTheSlateBack() {
        StoneReaders x = Due.told("mouth a plain high 2 takes 0 holds 9;mouth b plain high 1 takes 0 holds 9;"
                + "letter p of a;letter q of b;");
        x.pour(0, 1);
        x.minute();
        x.undo();
        x.undo();
        x.pour(1, 1);
        Due.due("minute()", x.minute(), 1);
        Due.due("slate(0)", x.slate(0), 1);
        Due.due("count(11)", x.count(11), 2);
    }
}
