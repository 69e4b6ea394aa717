/** Boundary cases that the promises themselves name: 1, and 6 to 43. */
final class PromiseEdges {
    /** What is no MOUTH, LETTER, place, MARK or what of anything: also numbers that a shift would take for small ones. */
    private static final int[] FAR = {Integer.MIN_VALUE, Integer.MIN_VALUE + 1, -65536, -64, -33, -32, -31, -3, 32, 33, 64, 65,
        128, 256, 1000, 65536, 65537, 1 << 30, Integer.MAX_VALUE - 1, Integer.MAX_VALUE};

    private PromiseEdges() {
    }

    static void run() {
        Edge.edge("Promise 1", "Nothing", PromiseEdges::eachIsForItself);
        Edge.edge("Promise 6", "KIND (0 plain, 1 wide, 2 slow, 3 nest)", PromiseEdges::mouthKind);
        Edge.edge("Promise 6", "where its gutter leads (NONE: none)", PromiseEdges::mouthGutter);
        Edge.edge("Promise 6", "what stands in it, 6: 1 STOPPED", PromiseEdges::mouthStandsStopped);
        Edge.edge("Promise 6", "FLOW in the last MINUTE (0 ahead of any)", PromiseEdges::mouthFlow);
        Edge.edge("Promise 6", "-2: others", PromiseEdges::mouthOthers);
        Edge.edge("Promise 7", "as bits; NONE: others", PromiseEdges::letterOthers);
        Edge.edge("Promise 8", "a LETTER, 6: a HOLE; NONE: none such", PromiseEdges::slateNoneSuch);
        Edge.edge("Promise 9", "a LETTER, 6: a HOLE; NONE: nothing", PromiseEdges::minuteNothing);
        Edge.edge("Promise 10", "POUR (1 to 20): what stands there then; NONE: others", PromiseEdges::pourOthers);
        Edge.edge("Promise 11", "true; false: others, it is", PromiseEdges::stopOthers);
        Edge.edge("Promise 12", "true; false: others, it is not STOPPED", PromiseEdges::clearOthers);
        Edge.edge("Promise 13", "true; false: nothing can be", PromiseEdges::undoNothing);
        Edge.edge("Promise 14", "what 0, 1: lines (NONE: none)", PromiseEdges::judgedNone);
        Edge.edge("Promise 14", "-2: others", PromiseEdges::judgedOthers);
        Edge.edge("Promise 15", "LATER; NONE: others", PromiseEdges::laterOthers);
        Edge.edge("Promise 16", "as minute() tells; -2: others", PromiseEdges::readsOthers);
        Edge.edge("Promise 17", "NONE: others, not by 60", PromiseEdges::whenOthers);
        Edge.edge("Promise 18", "NONE: not by 60", PromiseEdges::dryNot);
        Edge.edge("Promise 19", "SPILL; NONE: others", PromiseEdges::spillOthers);
        Edge.edge("Promise 20", "NONE: others, not by 60", PromiseEdges::overOthers);
        Edge.edge("Promise 21", "NONE: none by 60", PromiseEdges::firstNone);
        Edge.edge("Promise 22", "NONE: others, no MOUTHS", PromiseEdges::greatOthers);
        Edge.edge("Promise 23", "how many; NONE: others", PromiseEdges::twinsOthers);
        Edge.edge("Promise 24", "as bits; NONE: others", PromiseEdges::downOthers);
        Edge.edge("Promise 25", "as bits; NONE: others", PromiseEdges::upOthers);
        Edge.edge("Promise 26", "CHAIN (0: no MOUTHS)", PromiseEdges::chainNoMouths);
        Edge.edge("Promise 27", "SOUNDS, as bits", PromiseEdges::soundsBits);
        Edge.edge("Promise 28", "as minute() told; NONE: nothing, ahead of any", PromiseEdges::lastNone);
        Edge.edge("Promise 29", "NONE: none is there", PromiseEdges::oftenNone);
        Edge.edge("Promise 30", "RUN (0: no LETTER is there)", PromiseEdges::runNone);
        Edge.edge("Promise 31", "NONE: nowhere, no WORD", PromiseEdges::standsNone);
        Edge.edge("Promise 32", "NONE: no WORD", PromiseEdges::maybeNone);
        Edge.edge("Promise 33", "NONE: not by 60, no WORD", PromiseEdges::entireNone);
        Edge.edge("Promise 34", "1: where (NONE: into none)", PromiseEdges::aimWhere);
        Edge.edge("Promise 34", "-2: others, by none", PromiseEdges::aimOthers);
        Edge.edge("Promise 35", "as bits; NONE: others, by none", PromiseEdges::hushOthers);
        Edge.edge("Promise 36", "true; false: others, 8 there are", PromiseEdges::seeOthers);
        Edge.edge("Promise 37", "RAINS, as bits", PromiseEdges::rainsBits);
        Edge.edge("Promise 38", "NONE: none parts them", PromiseEdges::lookNone);
        Edge.edge("Promise 39", "CHANCE, by odds (0 to 10); NONE: others", PromiseEdges::chanceOthers);
        Edge.edge("Promise 40", "what NONE: how many", PromiseEdges::restsHowMany);
        Edge.edge("Promise 40", "as 2 * the first one's choice + the other one's (1 pulls; the least first)", PromiseEdges::restsLeastFirst);
        Edge.edge("Promise 40", "NoSuchElementException: others, none such", PromiseEdges::restsNoneSuch);
        Edge.edge("Promise 41", "DAYS by a SEED (0 to 9999)", PromiseEdges::daysSeed);
        Edge.edge("Promise 41", "what 0: LETTERS, 1: HOLES, 2: how much; NONE: others", PromiseEdges::daysOthers);
        Edge.edge("Promise 42", "A MARK is laid (back: gone back to): true", PromiseEdges::markLaid);
        Edge.edge("Promise 42", "false: none such, nothing is on it (back)", PromiseEdges::markNoneSuch);
        Edge.edge("Promise 43", "NONE for another what", PromiseEdges::countOthers);
        Edge.edge("Promise 43", "What 0: MOUTHS, 1: LETTERS, 2: the minute, 3: its rain, 4: how much stands in all, together, "
                + "5: who is STOPPED, as bits, 6: signs on the slate, 7: HOLES there, 8: lines of the DAY, 9: LETTERS of the WORD, "
                + "10: SEEN, 11: what can be undone, 12: signs on the TAPE", PromiseEdges::countEach);
    }

    private static StoneReaders two() {
        return Due.told("mouth a plain high 2 takes 1 holds 9;mouth n nest high 1 takes 1 holds 9;gutter a n;"
                + "letter l of a;letter m of a n;rain 4 1;");
    }

    /** The two next to what is there, 0 up to n - 1, and all that are far. */
    private static int[] others(int n) {
        int[] all = new int[FAR.length + 2];
        System.arraycopy(FAR, 0, all, 2, FAR.length);
        all[0] = -1;
        all[1] = n;
        return all;
    }

    private static void eachIsForItself() {
        StoneReaders x = two();
        Due.day(x, "minute;");
        x.minute();
        x.mark(0, false);
        Due.feed(x, "left");
        StoneReaders y = new StoneReaders();
        for (int what = 0; what <= 12; what++) {
            Due.due("count(" + what + ") of another one", y.count(what), 0);
        }
        Due.due("mark(0, true) of another one", y.mark(0, true), false);
        Due.due("undo() of another one", y.undo(), false);
        Due.frontFault(y, 0, "mouth q wide high 7 takes 1 holds 1;");
        y.minute();
        Due.due("mouth(0, 1) stays", x.mouth(0, 1), 2);
        Due.due("count(12) stays", x.count(12), 4);
        Due.due("count(2) stays", x.count(2), 1);
    }

    private static void mouthKind() {
        StoneReaders x = Due.told("mouth d nest high 1 takes 1 holds 1;mouth c slow high 1 takes 1 holds 1;"
                + "mouth b wide high 1 takes 1 holds 1;mouth a plain high 1 takes 1 holds 1;");
        for (int i = 0; i < 4; i++) {
            Due.due("mouth(" + i + ", 0)", x.mouth(i, 0), 3 - i);
        }
        x.clear(0);
        Due.due("mouth(0, 0) of a nest that is CLEARED", x.mouth(0, 0), 3);
    }

    private static void mouthGutter() {
        StoneReaders x = two();
        Due.due("mouth(0, 4)", x.mouth(0, 4), 1);
        Due.due("mouth(1, 4)", x.mouth(1, 4), -1);
        StoneReaders y = Due.told("mouth low plain high 1 takes 1 holds 1;mouth hi plain high 2 takes 1 holds 1;gutter hi low;");
        Due.due("mouth(1, 4) to the first", y.mouth(1, 4), 0);
        // An earlier FRONT's gutters are gone.
        Due.frontFault(y, 0, "mouth low plain high 1 takes 1 holds 1;mouth hi plain high 2 takes 1 holds 1;");
        Due.due("mouth(1, 4) without", y.mouth(1, 4), -1);
        Due.frontFault(y, 0, "mouth low plain high 1 takes 1 holds 1;mouth hi plain high 2 takes 1 holds 1;");
        Due.due("mouth(1, 4) without, again", y.mouth(1, 4), -1);
    }

    private static void mouthStandsStopped() {
        StoneReaders x = two();
        Due.due("mouth(0, 5)", x.mouth(0, 5), 0);
        Due.due("mouth(0, 6)", x.mouth(0, 6), 0);
        Due.due("mouth(1, 6)", x.mouth(1, 6), 1);
        x.stop(0);
        x.pour(0, 7);
        Due.due("mouth(0, 5)", x.mouth(0, 5), 7);
        Due.due("mouth(0, 6)", x.mouth(0, 6), 1);
        x.clear(1);
        Due.due("mouth(1, 5)", x.mouth(1, 5), 0);
        Due.due("mouth(1, 6)", x.mouth(1, 6), 0);
    }

    private static void mouthFlow() {
        StoneReaders x = two();
        Due.due("mouth(0, 7) ahead of any", x.mouth(0, 7), 0);
        x.minute();
        Due.due("mouth(0, 7)", x.mouth(0, 7), 3);
        Due.due("mouth(1, 7)", x.mouth(1, 7), 0);
        x.pour(0, 9);
        x.clear(1);
        Due.due("mouth(0, 7) of the last MINUTE", x.mouth(0, 7), 3);
        Due.due("mouth(1, 7) of the last MINUTE", x.mouth(1, 7), 0);
        x.undo();
        x.undo();
        x.undo();
        Due.due("mouth(0, 7) behind undoing", x.mouth(0, 7), 0);
        x.minute();
        Due.frontFault(x, 0, "mouth a plain high 2 takes 1 holds 9;");
        Due.due("mouth(0, 7) ahead of any of another FRONT", x.mouth(0, 7), 0);
    }

    private static void mouthOthers() {
        StoneReaders x = two();
        for (int i : others(2)) {
            for (int what = 0; what <= 7; what++) {
                Due.due("mouth(" + i + ", " + what + ")", x.mouth(i, what), -2);
            }
        }
        for (int what : others(8)) {
            Due.due("mouth(0, " + what + ")", x.mouth(0, what), -2);
            Due.due("mouth(2, " + what + ")", x.mouth(2, what), -2);
        }
        Due.due("mouth(6, 0): the seventh is not told", x.mouth(6, 0), -2);
    }

    private static void letterOthers() {
        StoneReaders x = two();
        Due.due("letter(0)", x.letter(0), 1);
        Due.due("letter(1)", x.letter(1), 3);
        for (int i : others(2)) {
            Due.due("letter(" + i + ")", x.letter(i), -1);
        }
        Due.due("letter(5)", x.letter(5), -1);
        Due.due("letter(6)", x.letter(6), -1);
    }

    private static void slateNoneSuch() {
        StoneReaders x = AheadEdges.written("p?q");
        Due.due("slate(0)", x.slate(0), 0);
        Due.due("slate(1)", x.slate(1), 6);
        Due.due("slate(2)", x.slate(2), 1);
        for (int i : others(3)) {
            Due.due("slate(" + i + ")", x.slate(i), -1);
        }
        x.undo();
        Due.due("slate(2) behind undoing", x.slate(2), -1);
        Due.due("slate(0) of an empty one", new StoneReaders().slate(0), -1);
        StoneReaders full = AheadEdges.written("q".repeat(41));
        Due.due("slate(39)", full.slate(39), 1);
        Due.due("slate(40)", full.slate(40), -1);
        Due.due("slate(41)", full.slate(41), -1);
    }

    private static void minuteNothing() {
        StoneReaders x = two();
        Due.due("minute() of l", x.minute(), 0);
        x.clear(1);
        Due.due("minute() of m", x.minute(), 1);
        x.stop(0);
        Due.due("minute() of a HOLE", x.minute(), 6);
        x.stop(1);
        Due.due("minute() of nothing", x.minute(), -1);
        Due.due("minute() without a FRONT", new StoneReaders().minute(), -1);
    }

    private static void pourOthers() {
        StoneReaders x = two();
        Due.due("pour(0, 1)", x.pour(0, 1), 1);
        Due.due("pour(1, 20)", x.pour(1, 20), 20);
        Due.due("pour(0, 0)", x.pour(0, 0), -1);
        Due.due("pour(0, 21)", x.pour(0, 21), -1);
        for (int i : others(21)) {
            Due.due("pour(0, " + i + ")", x.pour(0, i), -1);
        }
        for (int i : others(2)) {
            Due.due("pour(" + i + ", 1)", x.pour(i, 1), -1);
        }
        Due.due("count(4)", x.count(4), 21);
        Due.due("count(11): what is refused is not done", x.count(11), 2);
    }

    private static void stopOthers() {
        StoneReaders x = two();
        for (int i : others(2)) {
            Due.due("stop(" + i + ")", x.stop(i), false);
        }
        Due.due("stop(1): it is", x.stop(1), false);
        Due.due("count(5)", x.count(5), 2);
        Due.due("count(11)", x.count(11), 0);
        Due.due("stop(0)", x.stop(0), true);
        Due.due("stop(0): it is", x.stop(0), false);
        Due.due("count(5)", x.count(5), 3);
        Due.due("count(11)", x.count(11), 1);
    }

    private static void clearOthers() {
        StoneReaders x = two();
        for (int i : others(2)) {
            Due.due("clear(" + i + ")", x.clear(i), false);
        }
        Due.due("clear(0): it is not STOPPED", x.clear(0), false);
        Due.due("count(5)", x.count(5), 2);
        Due.due("count(11)", x.count(11), 0);
        Due.due("clear(1)", x.clear(1), true);
        Due.due("clear(1): it is not STOPPED", x.clear(1), false);
        Due.due("count(5)", x.count(5), 0);
        Due.due("count(11)", x.count(11), 1);
    }

    private static void undoNothing() {
        StoneReaders x = two();
        Due.due("undo()", x.undo(), false);
        x.minute();
        Due.due("undo()", x.undo(), true);
        Due.due("undo()", x.undo(), false);
        Due.due("count(2)", x.count(2), 0);
        Due.due("undo() without a FRONT", new StoneReaders().undo(), false);
        StoneReaders y = new StoneReaders();
        y.minute();
        Due.due("undo() of a MINUTE without a FRONT", y.undo(), true);
        Due.due("count(2)", y.count(2), 0);
    }

    private static void judgedNone() {
        StoneReaders x = two();
        Due.due("judged(0) without a DAY", x.judged(0), -1);
        Due.due("judged(1) without a DAY", x.judged(1), -1);
        Due.day(x, "stop a;minute;pour n 1;");
        Due.due("judged(0), all can be", x.judged(0), -1);
        Due.due("judged(1), none READ", x.judged(1), -1);
        Due.day(x, "clear a;minute;");
        Due.due("judged(0)", x.judged(0), 0);
        Due.due("judged(1)", x.judged(1), 1);
    }

    private static void judgedOthers() {
        StoneReaders x = two();
        Due.day(x, "minute;");
        for (int what : others(3)) {
            Due.due("judged(" + what + ")", x.judged(what), -2);
        }
        Due.due("judged(2)", x.judged(2), 0);
    }

    private static void laterOthers() {
        StoneReaders x = two();
        for (int i : others(2)) {
            Due.due("later(" + i + ", 1)", x.later(i, 1), -1);
        }
        for (int minutes : others(61)) {
            boolean good = minutes >= 0 && minutes <= 60;
            Due.due("later(1, " + minutes + ")", x.later(1, minutes) != -1, good);
        }
        Due.due("later(1, 61)", x.later(1, 61), -1);
        Due.due("later(1, 0)", x.later(1, 0), 0);
        Due.due("later(1, 1)", x.later(1, 1), 4);
        Due.due("later(1, 60)", x.later(1, 60), 9);
    }

    private static boolean isAhead(int minutes) {
        return minutes >= 1 && minutes <= 60;
    }

    private static void readsOthers() {
        StoneReaders x = two();
        x.stop(0);
        for (int minutes : others(61)) {
            Due.due("reads(" + minutes + ")", x.reads(minutes), isAhead(minutes) ? -1 : -2);
        }
        Due.due("reads(0)", x.reads(0), -2);
        x.clear(0);
        Due.due("reads(1)", x.reads(1), 0);
        x.clear(1);
        Due.due("reads(1)", x.reads(1), 1);
        Due.due("reads(60)", x.reads(60), 1);
        x.stop(0);
        Due.due("reads(1) of a HOLE", x.reads(1), 6);
    }

    private static void whenOthers() {
        StoneReaders x = two();
        for (int i : others(2)) {
            Due.due("when(" + i + ")", x.when(i), -1);
        }
        Due.due("when(0)", x.when(0), 1);
        Due.due("when(1), never", x.when(1), -1);
        x.clear(1);
        x.stop(0);
        // HOLES come, but 6 is no LETTER; nothing is READ, but -1 is none.
        Due.due("when(6)", x.when(6), -1);
        x.stop(1);
        Due.due("when(-1)", x.when(-1), -1);
    }

    private static void dryNot() {
        StoneReaders x = two();
        Due.due("dry()", x.dry(), 0);
        x.pour(1, 1);
        Due.due("dry() of a nest", x.dry(), -1);
    }

    private static void spillOthers() {
        StoneReaders x = two();
        for (int minutes : others(61)) {
            Due.due("spill(" + minutes + ") is told", x.spill(minutes) != -1, isAhead(minutes));
        }
        Due.due("spill(0)", x.spill(0), -1);
        Due.due("spill(1)", x.spill(1), 0);
        Due.due("spill(60) without MOUTHS", new StoneReaders().spill(60), 0);
    }

    private static void overOthers() {
        StoneReaders x = two();
        for (int i : others(2)) {
            Due.due("over(" + i + ")", x.over(i), -1);
        }
        Due.due("over(1)", x.over(1), 4);
        Due.due("over(0), never", x.over(0), -1);
        Due.due("over(6): the seventh is not told", x.over(6), -1);
    }

    private static void firstNone() {
        Due.due("first() without MOUTHS", new StoneReaders().first(), -1);
        StoneReaders x = two();
        Due.due("first()", x.first(), 1);
        x.clear(1);
        Due.due("first() of none", x.first(), -1);
    }

    private static void greatOthers() {
        StoneReaders x = two();
        for (int minutes : others(61)) {
            Due.due("great(" + minutes + ")", x.great(minutes), isAhead(minutes) ? 0 : -1);
        }
        Due.due("great(0)", x.great(0), -1);
        Due.due("great(1) without MOUTHS", new StoneReaders().great(1), -1);
        Due.due("great(60) without MOUTHS", Due.told("rain 9;").great(60), -1);
    }

    private static void twinsOthers() {
        StoneReaders x = two();
        x.stop(0);
        for (int minutes : others(61)) {
            Due.due("twins(" + minutes + ")", x.twins(minutes), isAhead(minutes) ? 1 : -1);
        }
        Due.due("twins(0)", x.twins(0), -1);
    }

    private static void downOthers() {
        StoneReaders x = two();
        Due.due("down(0)", x.down(0), 2);
        Due.due("down(1)", x.down(1), 0);
        for (int i : others(2)) {
            Due.due("down(" + i + ")", x.down(i), -1);
        }
    }

    private static void upOthers() {
        StoneReaders x = two();
        Due.due("up(0)", x.up(0), 0);
        Due.due("up(1)", x.up(1), 1);
        for (int i : others(2)) {
            Due.due("up(" + i + ")", x.up(i), -1);
        }
    }

    private static void chainNoMouths() {
        Due.due("chain() without a FRONT", new StoneReaders().chain(), 0);
        Due.due("chain() without MOUTHS", Due.told("rain 1;").chain(), 0);
        Due.due("chain()", two().chain(), 2);
    }

    private static void soundsBits() {
        StoneReaders x = two();
        Due.due("sounds() ahead of any", x.sounds(), 0);
        x.minute();
        Due.due("sounds()", x.sounds(), 1);
        x.clear(1);
        x.minute();
        Due.due("sounds()", x.sounds(), 3);
        x.stop(0);
        x.minute();
        Due.due("sounds()", x.sounds(), 2);
    }

    private static void lastNone() {
        StoneReaders x = two();
        Due.due("last() ahead of any", x.last(), -1);
        x.minute();
        Due.due("last()", x.last(), 0);
        x.stop(0);
        x.minute();
        Due.due("last() of nothing", x.last(), -1);
        x.clear(1);
        x.minute();
        Due.due("last() of a HOLE", x.last(), 6);
    }

    private static void oftenNone() {
        Due.due("often() of an empty slate", two().often(), -1);
        Due.due("often() of HOLES", AheadEdges.written("??").often(), -1);
        Due.due("often() of one", AheadEdges.written("?p").often(), 0);
    }

    private static void runNone() {
        Due.due("run() of an empty slate", two().run(), 0);
        Due.due("run() of HOLES", AheadEdges.written("??").run(), 0);
        Due.due("run() of one", AheadEdges.written("?p").run(), 1);
    }

    private static void standsNone() {
        StoneReaders x = AheadEdges.written("pq");
        Due.due("stands() without a WORD", x.stands(), -1);
        Due.word(x, "r");
        Due.due("stands() nowhere", x.stands(), -1);
        Due.word(x, "q");
        Due.due("stands()", x.stands(), 1);
        Due.due("stands() without a FRONT", new StoneReaders().stands(), -1);
    }

    private static void maybeNone() {
        StoneReaders x = AheadEdges.written("p?");
        Due.due("maybe() without a WORD", x.maybe(), -1);
        Due.word(x, "r q");
        Due.due("maybe() nowhere", x.maybe(), 0);
        Due.word(x, "p q");
        Due.due("maybe()", x.maybe(), 1);
        StoneReaders y = two();
        Due.word(y, "l");
        Due.due("maybe() on an empty slate", y.maybe(), 0);
    }

    private static void entireNone() {
        StoneReaders x = two();
        Due.due("entire() without a WORD", x.entire(), -1);
        Due.word(x, "m");
        Due.due("entire() not by 60", x.entire(), -1);
        Due.word(x, "l l");
        Due.due("entire()", x.entire(), 2);
        Due.minutes(x, 2);
        Due.due("entire() now", x.entire(), 0);
    }

    private static void aimWhere() {
        StoneReaders x = two();
        Due.due("aim(0, 0)", x.aim(0, 0), 0);
        Due.due("aim(0, 1)", x.aim(0, 1), -1);
        StoneReaders y = AheadEdges.written("");
        Due.due("aim(1, 0)", y.aim(1, 0), 1);
        Due.due("aim(1, 1)", y.aim(1, 1), 1);
    }

    private static void aimOthers() {
        StoneReaders x = two();
        for (int i : others(2)) {
            Due.due("aim(" + i + ", 0)", x.aim(i, 0), -2);
            Due.due("aim(" + i + ", 1)", x.aim(i, 1), -2);
        }
        for (int what : others(2)) {
            Due.due("aim(0, " + what + ")", x.aim(0, what), -2);
        }
        Due.due("aim(1, 0), by none", x.aim(1, 0), -2);
        Due.due("aim(1, 1), by none", x.aim(1, 1), -2);
        // 6 is no LETTER, though a HOLE will come; nor is -1.
        x.clear(1);
        x.stop(0);
        Due.due("aim(6, 0)", x.aim(6, 0), -2);
        x.stop(1);
        Due.due("aim(-1, 0)", x.aim(-1, 0), -2);
    }

    private static void hushOthers() {
        StoneReaders x = two();
        Due.due("hush(0)", x.hush(0), 0);
        for (int i : others(2)) {
            Due.due("hush(" + i + ")", x.hush(i), -1);
        }
        Due.due("hush(6): a HOLE is no LETTER", x.hush(6), -1);
        StoneReaders dry = Due.told("mouth a plain high 2 takes 1 holds 9;letter l of a;");
        Due.due("hush(0), by none", dry.hush(0), -1);
        Due.due("hush(0) without a FRONT", new StoneReaders().hush(0), -1);
    }

    private static void seeOthers() {
        StoneReaders x = two();
        for (int i : others(2)) {
            Due.due("see(" + i + ", true)", x.see(i, true), false);
            Due.due("see(" + i + ", false)", x.see(i, false), false);
        }
        Due.due("count(10)", x.count(10), 0);
        for (int i = 0; i < 8; i++) {
            Due.due("see(1, false)", x.see(1, false), true);
        }
        Due.due("see(1, false), 8 there are", x.see(1, false), false);
        Due.due("count(10)", x.count(10), 8);
    }

    private static void rainsBits() {
        StoneReaders x = two();
        Due.due("rains()", x.rains(), 1023);
        x.see(0, false);
        Due.due("rains() of none", x.rains(), 1);
        x.see(0, true);
        Due.due("rains() that can't be", x.rains(), 0);
    }

    private static void lookNone() {
        StoneReaders x = two();
        Due.due("look()", x.look(), 0);
        x.see(0, true);
        Due.due("look() of what none parts", x.look(), -1);
        Due.due("look() without MOUTHS", new StoneReaders().look(), -1);
    }

    private static void chanceOthers() {
        StoneReaders x = two();
        for (int i : others(2)) {
            Due.due("chance(" + i + ", 1, 5)", x.chance(i, 1, 5), -1);
        }
        for (int minutes : others(7)) {
            Due.due("chance(0, " + minutes + ", 5)", x.chance(0, minutes, 5), -1);
        }
        Due.due("chance(0, 0, 5)", x.chance(0, 0, 5), -1);
        for (int odds : others(11)) {
            Due.due("chance(0, 1, " + odds + ")", x.chance(0, 1, odds), -1);
        }
        Due.due("chance(0, 1, 0)", x.chance(0, 1, 0), 0);
        Due.due("chance(0, 1, 10)", x.chance(0, 1, 10), 1000000);
        Due.due("chance(0, 6, 10)", x.chance(0, 6, 10), 1000000);
    }

    private static void restsHowMany() {
        StoneReaders x = new StoneReaders();
        Due.due("rests(0, 0, 0, NONE)", x.rests(0, 0, 0, StoneReaders.NONE), 4);
        Due.due("rests(1, 0, 0, NONE)", x.rests(1, 0, 0, StoneReaders.NONE), 3);
        Due.due("rests(9, 9, 9, NONE)", x.rests(9, 9, 9, StoneReaders.NONE), 2);
    }

    private static void restsLeastFirst() {
        StoneReaders x = new StoneReaders();
        for (int i = 0; i < 4; i++) {
            Due.due("rests(0, 0, 0, " + i + ")", x.rests(0, 0, 0, i), i);
        }
        Due.due("rests(2, 5, 1, 0): the other one pulls", x.rests(2, 5, 1, 0), 1);
        Due.due("rests(2, 5, 1, 1): the first one pulls", x.rests(2, 5, 1, 1), 2);
    }

    private static void restsNoneSuch() {
        StoneReaders x = two();
        for (int i : others(10)) {
            Due.restsThrow(x, i, 1, 1, -1);
            Due.restsThrow(x, 1, i, 1, -1);
            Due.restsThrow(x, 1, 1, i, -1);
            Due.restsThrow(x, i, 1, 1, 0);
        }
        Due.restsThrow(x, 1, 1, 1, 2);
        Due.restsThrow(x, 0, 0, 0, 4);
        Due.restsThrow(x, 1, 1, 1, -2);
        for (int what : FAR) {
            Due.restsThrow(x, 1, 1, 1, what);
        }
        // The object goes on behind it.
        Due.due("rests(9, 0, 0, 2)", x.rests(9, 0, 0, 2), 2);
        Due.due("minute()", x.minute(), 0);
    }

    private static void daysSeed() {
        StoneReaders x = Due.told("mouth a plain high 2 takes 1 holds 9;letter l of a;sounds 1;");
        Due.due("days(0, 5, 0)", x.days(0, 5, 0), 5);
        Due.due("days(9999, 5, 0)", x.days(9999, 5, 0), 5);
        for (int seed : new int[] {-1, 10000, Integer.MIN_VALUE, Integer.MAX_VALUE, 65536, -65536}) {
            Due.due("days(" + seed + ", 5, 0)", x.days(seed, 5, 0), -1);
        }
    }

    private static void daysOthers() {
        StoneReaders x = Due.told("mouth a plain high 2 takes 1 holds 9;mouth n nest high 2 takes 0 holds 9;letter l of a n;rain 1 0;sounds wet or tall=5;");
        x.pour(1, 4);
        Due.due("days(1, 1, 0)", x.days(1, 1, 0), 1);
        Due.due("days(1, 1, 1)", x.days(1, 1, 1), 0);
        Due.due("days(1, 1, 2)", x.days(1, 1, 2), 4);
        for (int what : others(3)) {
            Due.due("days(1, 1, " + what + ")", x.days(1, 1, what), -1);
        }
        for (int minutes : others(100)) {
            boolean good = minutes >= 1 && minutes <= 99;
            Due.due("days(1, " + minutes + ", 0) is told", x.days(1, minutes, 0) != -1, good);
        }
        Due.due("days(1, 0, 0)", x.days(1, 0, 0), -1);
    }

    private static void markLaid() {
        StoneReaders x = new StoneReaders();
        for (int i = 0; i < 4; i++) {
            Due.due("mark(" + i + ", false)", x.mark(i, false), true);
            Due.due("mark(" + i + ", true)", x.mark(i, true), true);
            Due.due("mark(" + i + ", true) again", x.mark(i, true), true);
            x.minute();
            Due.due("mark(" + i + ", false) again", x.mark(i, false), true);
            x.minute();
            Due.due("mark(" + i + ", true) of the second time", x.mark(i, true), true);
            Due.due("count(2)", x.count(2), i + 1);
        }
    }

    private static void markNoneSuch() {
        StoneReaders x = two();
        for (int i : others(4)) {
            Due.due("mark(" + i + ", false)", x.mark(i, false), false);
            Due.due("mark(" + i + ", true)", x.mark(i, true), false);
        }
        x.minute();
        x.mark(1, false);
        for (int i : new int[] {0, 2, 3}) {
            Due.due("mark(" + i + ", true): nothing is on it", x.mark(i, true), false);
        }
        Due.due("count(11) behind what is refused", x.count(11), 1);
        Due.due("count(2) behind what is refused", x.count(2), 1);
    }

    private static void countOthers() {
        StoneReaders x = two();
        for (int what : others(13)) {
            Due.due("count(" + what + ")", x.count(what), -1);
        }
    }

    private static void countEach() {
        StoneReaders x = Due.told("mouth a plain high 2 takes 2 holds 9;mouth b plain high 3 takes 0 holds 9;mouth n nest high 1 takes 1 holds 9;"
                + "letter l of a;letter m of a n;rain 4 1 7;");
        Due.day(x, "minute;minute;minute;minute;minute;");
        Due.word(x, "l l l l l l");
        x.see(0, true);
        x.pour(1, 1);
        x.minute();
        x.minute();
        x.see(1, false);
        x.see(2, false);
        Due.feed(x, "a tape");
        // a has 8 - 3 + 2 - 3, n 4 + 1; first a HOLE (a and b), then l.
        int[] want = {3, 2, 2, 7, 9, 4, 2, 1, 5, 6, 3, 3, 6};
        for (int what = 0; what <= 12; what++) {
            Due.due("count(" + what + ")", x.count(what), want[what]);
        }
    }
}
