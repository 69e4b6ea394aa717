/** Boundary cases of FAULTS: Terms 1, and promises 3 to 5. */
final class FaultEdges {
    private static final String A = "mouth a plain high 2 takes 1 holds 9;";
    private static final String B = "mouth b plain high 1 takes 1 holds 9;";
    private static final String AB = A + B;
    private static final String SEVEN = mouths();
    private static final String TWELVE = "rain 1 2 3 4 5 6 7 8 9 1 2 3 ";

    private FaultEdges() {
    }

    static void run() {
        Edge.edge("Terms 1", "kind + 16 * the place (from 0) of a token", FaultEdges::kindAndPlace);
        Edge.edge("Terms 1", "the end being one at the text's length", FaultEdges::theEnd);
        Edge.edge("Terms 1", "of the first token from the left", FaultEdges::firstFromTheLeft);
        Edge.edge("Terms 1", "that is wrong the least", FaultEdges::wrongTheLeast);
        Edge.edge("Terms 1", "1 it is none, or can't stand there", FaultEdges::noneOrCantStand);
        Edge.edge("Terms 1", "2 a NAME of no MOUTH (behind gutter, its second, behind of, pour, stop, clear)", FaultEdges::ofNoMouth);
        Edge.edge("Terms 1", "of no LETTER (in a WORD) told", FaultEdges::ofNoLetter);
        Edge.edge("Terms 1", "3 a NAME told already", FaultEdges::toldAlready);
        Edge.edge("Terms 1", "the first MOUTH of gutter that has one", FaultEdges::hasAGutter);
        Edge.edge("Terms 1", "the second one that is not lower", FaultEdges::notLower);
        Edge.edge("Terms 1", "a MOUTH a second time behind of", FaultEdges::secondTimeBehindOf);
        Edge.edge("Terms 1", "the ; behind a letter's MOUTHS if a letter is of just the same ones", FaultEdges::theSameOnes);
        Edge.edge("Terms 1", "rain, sounds a second time", FaultEdges::rainSoundsAgain);
        Edge.edge("Terms 1", "4 a NUMBER that is not as told", FaultEdges::numberNotAsTold);
        Edge.edge("Terms 1", "the words mouth of an eighth", FaultEdges::eighthMouth);
        Edge.edge("Terms 1", "letter of a seventh", FaultEdges::seventhLetter);
        Edge.edge("Terms 1", "a thirteenth NUMBER of rain", FaultEdges::thirteenthNumber);
        Edge.edge("Terms 1", "the first word of a 41st line of a DAY", FaultEdges::line41);
        Edge.edge("Terms 1", "an eighth NAME of a LETTER in a WORD", FaultEdges::eighthName);
        Edge.edge("Terms 1", "not, or a PART, within 5 others", FaultEdges::withinFiveOthers);
        Edge.edge("Promise 3", "0, or its FAULT (all stays then)", FaultEdges::frontStays);
        Edge.edge("Promise 4", "The TAPE is read as a DAY, likewise", FaultEdges::dayStays);
        Edge.edge("Promise 5", "The TAPE is read as a WORD, likewise", FaultEdges::wordStays);
    }

    private static String mouths() {
        StringBuilder all = new StringBuilder();
        for (char m = 'a'; m <= 'g'; m++) {
            all.append("mouth ").append(m).append(" plain high 1 takes 1 holds 1;");
        }
        return all.toString();
    }

    private static String sixLetters() {
        StringBuilder all = new StringBuilder(SEVEN);
        for (char m = 'a'; m <= 'f'; m++) {
            all.append("letter l").append(m).append(" of ").append(m).append(';');
        }
        return all.toString();
    }

    private static void kindAndPlace() {
        StoneReaders x = new StoneReaders();
        Due.feed(x, "x");
        Due.due("front() of x", x.front(), 1);
        Due.feed(x, " x");
        Due.due("front() behind a blank", x.front(), 17);
        Due.feed(x, "\n\n x");
        Due.due("front() behind three", x.front(), 1 + 16 * 3);
        Due.feed(x, "x");
        Due.due("word() of x", x.word(), 2);
        Due.feed(x, "pour x 1;");
        Due.due("day() of pour x 1;", x.day(), 2 + 16 * 5);
        Due.feed(x, " ".repeat(999) + "x");
        Due.due("word() at place 999", x.word(), 2 + 16 * 999);
        // A NUMBER, a WORD and a sign stand where they begin.
        Due.frontFault(x, 4, "rain  ^0010 ;");
        Due.frontFault(x, 1, "rain 1  ^none  ;");
        Due.frontFault(x, 1, "rain 1 ;  ^;  ");
    }

    private static void theEnd() {
        StoneReaders x = Due.told("");
        Due.frontFault(x, 1, "rain^");
        Due.frontFault(x, 1, "rain 1^");
        Due.frontFault(x, 1, "rain 1  \n ^");
        Due.frontFault(x, 1, "sounds (1^");
        Due.dayFault(x, 1, "minute^");
        Due.dayFault(x, 1, "minute;pour ^");
        Due.wordFault(x, 1, "^");
        Due.wordFault(x, 1, "   ^");
        Due.frontFault(x, 1, "rain 1" + " ".repeat(994) + "^");
        Due.frontFault(x, 1, " ".repeat(996) + "rain^");
        // The end of this text, not of an earlier, longer one.
        Due.frontFault(x, 1, "rain ^7654321");
        Due.frontFault(x, 1, "rain 7^");
        Due.frontFault(x, 1, "^rainrainrain");
        Due.frontFault(x, 1, "rain^");
        Due.frontFault(x, 1, "rain 1 ^((((");
        Due.frontFault(x, 1, "rain 1^");
        Due.frontFault(x, 1, "mouth^");
        Due.frontFault(x, 0, "rain 1;");
        Due.frontFault(x, 1, AB + "letter l of a^");
    }

    private static void firstFromTheLeft() {
        StoneReaders x = Due.told(AB + "letter l of a;");
        Due.frontFault(x, 4, "rain ^10 !;");
        Due.frontFault(x, 3, AB + "gutter b ^a; rain 10;!");
        Due.frontFault(x, 4, "mouth a plain high ^0 takes 10 holds 41;");
        Due.frontFault(x, 4, "mouth a plain high 1 takes ^10 holds 41;");
        Due.frontFault(x, 2, "gutter ^a b;");
        Due.frontFault(x, 5, SEVEN + "^mouth a plain high 0 !");
        Due.dayFault(x, 2, "pour ^z 0;");
        Due.dayFault(x, 4, "pour a ^0 z");
        Due.wordFault(x, 2, "l ^z ;");
        Due.wordFault(x, 1, "l ^; z");
    }

    /** A token that is wrong in two ways tells the lesser kind. */
    private static void wrongTheLeast() {
        StoneReaders x = Due.told(AB + "letter l of a;");
        Due.frontFault(x, 4, TWELVE + "^10;");
        Due.frontFault(x, 1, TWELVE + "^12345;");
        Due.frontFault(x, 1, TWELVE + "^a;");
        Due.dayFault(x, 1, "minute;".repeat(40) + "^mouth a;");
        Due.dayFault(x, 1, "minute;".repeat(40) + "^;");
        Due.wordFault(x, 2, "l l l l l l l ^a");
        Due.wordFault(x, 1, "l l l l l l l ^not");
        Due.frontFault(x, 1, "sounds (((((^)");
        Due.frontFault(x, 1, "sounds (((((^and");
        Due.frontFault(x, 1, "sounds not not not not not ^;");
        Due.frontFault(x, 1, "sounds not not not not not ^12345;");
        // The first one of gutter that has one and leads to itself: 3 at the first.
        Due.frontFault(x, 3, AB + "gutter a b;gutter ^a a;");
        Due.frontFault(x, 1, "rain 1;^rains 1;");
    }

    private static void noneOrCantStand() {
        StoneReaders x = Due.told(AB + "letter l of a;");
        Due.frontFault(x, 1, "^7;");
        Due.frontFault(x, 1, "^minute;");
        Due.frontFault(x, 1, "^a;");
        Due.frontFault(x, 1, "rain 1^:");
        Due.frontFault(x, 1, "mouth ^5");
        Due.frontFault(x, 1, "mouth a ^takes");
        Due.frontFault(x, 1, "mouth a plain ^1");
        Due.frontFault(x, 1, "mouth a plain high ^takes");
        Due.frontFault(x, 1, "mouth a plain high 1 ^holds");
        Due.frontFault(x, 1, "mouth a plain high 1 takes 1 ^high");
        Due.frontFault(x, 1, "mouth a plain high 1 takes 1 holds 1 ^mouth");
        Due.frontFault(x, 1, AB + "gutter ^1");
        Due.frontFault(x, 1, AB + "gutter a ^1");
        Due.frontFault(x, 1, AB + "gutter a b ^a");
        Due.frontFault(x, 1, AB + "letter ^1");
        Due.frontFault(x, 1, AB + "letter l ^a");
        Due.frontFault(x, 1, AB + "letter l of ^;");
        Due.frontFault(x, 1, AB + "letter l of a ^1");
        Due.frontFault(x, 1, "rain ^a");
        Due.frontFault(x, 1, "rain 1 ^a");
        Due.frontFault(x, 1, "sounds 1 ^1");
        Due.dayFault(x, 1, "^rain 1;");
        Due.dayFault(x, 1, "minute ^1;");
        Due.dayFault(x, 1, "pour ^1");
        Due.dayFault(x, 1, "pour a ^a");
        Due.dayFault(x, 1, "pour a 1 ^1");
        Due.dayFault(x, 1, "stop ^;");
        Due.dayFault(x, 1, "stop a ^a;");
        Due.dayFault(x, 1, "clear ^1;");
        Due.wordFault(x, 1, "^1");
        Due.wordFault(x, 1, "l^;");
    }

    private static void ofNoMouth() {
        StoneReaders x = Due.told(AB + "letter l of a;");
        for (String name : new String[] {"z", "l", "flow", "aa"}) {
            String front = AB + "letter l of a;";
            Due.frontFault(x, 2, front + "gutter ^" + name + " b;");
            Due.frontFault(x, 2, front + "gutter a ^" + name + ";");
            Due.frontFault(x, 2, front + "letter m of ^" + name + ";");
            Due.frontFault(x, 2, front + "letter m of a b ^" + name + ";");
            Due.dayFault(x, 2, "pour ^" + name + " 1;");
            Due.dayFault(x, 2, "stop ^" + name + ";");
            Due.dayFault(x, 2, "clear ^" + name + ";");
        }
        Due.frontFault(x, 2, SEVEN + "letter l of a b c d e f g ^h;");
    }

    private static void ofNoLetter() {
        StoneReaders x = Due.told(AB + "letter l of a;");
        Due.wordFault(x, 2, "^z");
        Due.wordFault(x, 2, "^a");
        Due.wordFault(x, 2, "l l ^b");
        Due.wordFault(x, 2, "^ll");
        Due.frontFault(x, 0, AB);
        Due.wordFault(x, 2, "^l");
    }

    private static void toldAlready() {
        StoneReaders x = new StoneReaders();
        Due.frontFault(x, 3, A + "mouth ^a plain");
        Due.frontFault(x, 3, A + "letter ^a of a;");
        Due.frontFault(x, 3, A + "letter l of a;mouth ^l plain");
        Due.frontFault(x, 3, AB + "letter l of a;letter ^l of b;");
    }

    private static void hasAGutter() {
        StoneReaders x = new StoneReaders();
        String c = "mouth c plain high 1 takes 1 holds 9;";
        Due.frontFault(x, 3, AB + c + "gutter a b;gutter ^a c;");
        Due.frontFault(x, 3, AB + c + "gutter a b;gutter ^a z;");
        Due.frontFault(x, 3, AB + c + "gutter a b;gutter ^a;");
    }

    private static void notLower() {
        StoneReaders x = new StoneReaders();
        Due.frontFault(x, 3, AB + "gutter b ^a;");
        Due.frontFault(x, 3, AB + "mouth c plain high 2 takes 1 holds 9;gutter a ^c;");
        Due.frontFault(x, 3, AB + "gutter b ^b;");
    }

    private static void secondTimeBehindOf() {
        StoneReaders x = new StoneReaders();
        Due.frontFault(x, 3, AB + "letter l of a ^a;");
        Due.frontFault(x, 3, AB + "letter l of a b ^a;");
        Due.frontFault(x, 3, AB + "letter l of a b ^b;");
        Due.frontFault(x, 3, SEVEN + "letter l of a b c d e f g ^a;");
    }

    private static void theSameOnes() {
        StoneReaders x = new StoneReaders();
        Due.frontFault(x, 3, AB + "letter l of a;letter m of a ^;");
        Due.frontFault(x, 3, AB + "letter l of a b;letter m of b a^;");
        Due.frontFault(x, 1, AB + "letter l of a;letter m of a^");
        Due.frontFault(x, 1, AB + "letter l of a;letter m of a ^1;");
        Due.frontFault(x, 0, AB + "letter l of a;letter m of a b;");
    }

    private static void rainSoundsAgain() {
        StoneReaders x = new StoneReaders();
        Due.frontFault(x, 3, "rain 1;^rain 1;");
        Due.frontFault(x, 3, "rain 1;^rain");
        Due.frontFault(x, 3, "sounds 1;^sounds 1;");
        Due.frontFault(x, 3, "sounds 1;^sounds");
        Due.frontFault(x, 3, "rain 1;sounds 1;" + A + "^rain 2;");
    }

    private static void numberNotAsTold() {
        StoneReaders x = Due.told(A);
        Due.frontFault(x, 4, "mouth a plain high ^0 takes 1 holds 1;");
        Due.frontFault(x, 4, "mouth a plain high ^21 takes 1 holds 1;");
        Due.frontFault(x, 4, "mouth a plain high 1 takes ^10 holds 1;");
        Due.frontFault(x, 4, "mouth a plain high 1 takes 1 holds ^41;");
        Due.frontFault(x, 4, "rain ^10;");
        Due.frontFault(x, 4, "rain 1 ^9999;");
        Due.dayFault(x, 4, "pour a ^0;");
        Due.dayFault(x, 4, "pour a ^21;");
        // An E's NUMBERS may be any.
        Due.frontFault(x, 0, "sounds 9999+0+0000;");
    }

    private static void eighthMouth() {
        StoneReaders x = new StoneReaders();
        Due.frontFault(x, 0, SEVEN);
        Due.frontFault(x, 5, SEVEN + "^mouth h plain high 1 takes 1 holds 1;");
        Due.frontFault(x, 5, SEVEN + "^mouth a");
        Due.frontFault(x, 5, SEVEN + "rain 1;^mouth");
        Due.frontFault(x, 1, SEVEN + "^mouthh");
    }

    private static void seventhLetter() {
        StoneReaders x = new StoneReaders();
        Due.frontFault(x, 0, sixLetters());
        Due.frontFault(x, 5, sixLetters() + "^letter lg of g;");
        Due.frontFault(x, 5, sixLetters() + "rain 1;^letter a");
        Due.frontFault(x, 5, sixLetters() + "^letter");
    }

    private static void thirteenthNumber() {
        StoneReaders x = new StoneReaders();
        Due.frontFault(x, 0, TWELVE + ";");
        Due.frontFault(x, 5, TWELVE + "^0;");
        Due.frontFault(x, 5, TWELVE + "^9 9;");
        Due.frontFault(x, 5, TWELVE + "^9");
    }

    private static void line41() {
        StoneReaders x = Due.told(AB);
        String forty = "minute;".repeat(40);
        Due.dayFault(x, 0, forty);
        Due.dayFault(x, 5, forty + "^minute;");
        Due.dayFault(x, 5, forty + "^pour z 0;");
        Due.dayFault(x, 5, forty + "^stop z;");
        Due.dayFault(x, 5, forty + "^clear");
        Due.dayFault(x, 5, "pour a 1;stop b;clear b;minute;".repeat(10) + "^minute");
    }

    private static void eighthName() {
        StoneReaders x = Due.told(AB + "letter l of a;letter m of b;");
        Due.wordFault(x, 0, "l l l l l l l");
        Due.wordFault(x, 5, "l l l l l l l ^l");
        Due.wordFault(x, 5, "l m l m l m l ^m l l l ;");
    }

    private static void withinFiveOthers() {
        StoneReaders x = new StoneReaders();
        Due.frontFault(x, 5, "sounds (((((^not 1)))));");
        Due.frontFault(x, 5, "sounds (((((^(1))))));");
        Due.frontFault(x, 5, "sounds (((((^12)))));");
        Due.frontFault(x, 5, "sounds (((((^stands)))));");
        Due.frontFault(x, 5, "sounds not not not not not ^not 1;");
        Due.frontFault(x, 5, "sounds not not not not not ^(");
        Due.frontFault(x, 5, "sounds ((((1+not ^tall))));");
        Due.frontFault(x, 0, "sounds (((not 1)));");
        Due.frontFault(x, 5, "sounds ((((not ^1))));");
    }

    /** A FRONT with a DAY, a WORD, a sight and a MARK, two MINUTES of age. */
    private static StoneReaders atWork() {
        StoneReaders x = Due.told(AB + "gutter a b;letter l of a b;rain 1 2;sounds flow+0;");
        Due.day(x, "minute;clear a;");
        Due.word(x, "l l");
        x.minute();
        x.see(0, true);
        x.mark(2, false);
        x.minute();
        return x;
    }

    private static void allStays(StoneReaders x) {
        int[] want = {2, 1, 2, 1, 0, 0, 2, 0, 2, 2, 1, 2, 0};
        for (int what = 0; what <= 12; what++) {
            Due.due("count(" + what + ")", x.count(what), want[what]);
        }
        Due.due("mouth(0, 1)", x.mouth(0, 1), 2);
        Due.due("mouth(0, 4)", x.mouth(0, 4), 1);
        Due.due("letter(0)", x.letter(0), 3);
        Due.due("judged(0)", x.judged(0), 1);
        Due.due("stands()", x.stands(), 0);
        Due.due("last()", x.last(), 0);
        Due.due("rains()", x.rains(), 1022);
        Due.due("reads(1)", x.reads(1), 0);
        Due.due("undo()", x.undo(), true);
        Due.due("mark(2, true)", x.mark(2, true), true);
    }

    private static void frontStays() {
        StoneReaders x = atWork();
        Due.frontFault(x, 1, "mouth q wide high 9 takes 9 holds 9;mouth a nest high 8 takes 8 holds 8;gutter q a;"
                + "letter z of a q;letter k of q;rain 7;sounds 0;^!");
        allStays(x);
        StoneReaders y = atWork();
        Due.frontFault(y, 1, "^;");
        allStays(y);
        // An E that broke off leaves the one that is told as it is, and none in the next FRONT.
        Due.frontFault(y, 1, "sounds 0*(0 and^");
        Due.frontFault(y, 0, A + "rain 1;");
        y.minute();
        Due.due("sounds() by flow", y.sounds(), 1);
    }

    private static void dayStays() {
        StoneReaders x = atWork();
        Due.dayFault(x, 1, "clear b;clear b;minute;minute;^!");
        allStays(x);
        StoneReaders y = atWork();
        Due.dayFault(y, 2, "stop ^z;");
        allStays(y);
    }

    private static void wordStays() {
        StoneReaders x = atWork();
        Due.wordFault(x, 2, "l l l ^a");
        allStays(x);
        StoneReaders y = atWork();
        Due.wordFault(y, 1, "^");
        allStays(y);
    }
}
