/** Boundary cases of what a FRONT, a DAY and a WORD may be: Terms 1. */
final class FrontEdges {
    private static final String A = "mouth a plain high 2 takes 1 holds 9;";
    private static final String B = "mouth b plain high 1 takes 1 holds 9;";
    private static final String C = "mouth c plain high 2 takes 1 holds 9;";
    private static final String ABC = A + B + C;

    private FrontEdges() {
    }

    static void run() {
        Edge.edge("Terms 1", "FRONT: any number of", FrontEdges::anyNumberOfLines);
        Edge.edge("Terms 1", "mouth: 7 at most, numbered as told", FrontEdges::sevenMouths);
        Edge.edge("Terms 1", "mouth: 7 at most", FrontEdges::allIsAskedOfSeven);
        Edge.edge("Terms 1", "KIND: plain, wide, slow, nest", FrontEdges::kinds);
        Edge.edge("Terms 1", "high 1 to 20", FrontEdges::high1To20);
        Edge.edge("Terms 1", "takes 0 to 9", FrontEdges::takes0To9);
        Edge.edge("Terms 1", "holds 0 to 40", FrontEdges::holds0To40);
        Edge.edge("Terms 1", "gutter: two MOUTHS told", FrontEdges::gutterOfTwoTold);
        Edge.edge("Terms 1", "the second one lower than the first one", FrontEdges::secondLower);
        Edge.edge("Terms 1", "which has none yet", FrontEdges::noneYet);
        Edge.edge("Terms 1", "letter: 6 at most, numbered as told", FrontEdges::sixLetters);
        Edge.edge("Terms 1", "of 1 to 7 MOUTHS told", FrontEdges::of1To7);
        Edge.edge("Terms 1", "none twice", FrontEdges::noneTwice);
        Edge.edge("Terms 1", "no two of just the same MOUTHS", FrontEdges::noTwoOfTheSame);
        Edge.edge("Terms 1", "rain 0 to 9 of one minute behind another", FrontEdges::rain0To9);
        Edge.edge("Terms 1", "1 to 12, again and again", FrontEdges::oneToTwelve);
        Edge.edge("Terms 1", "again and again (0)", FrontEdges::againAndAgain);
        Edge.edge("Terms 1", "rain, sounds: once each", FrontEdges::onceEach);
        Edge.edge("Terms 1", "DAY: any number of", FrontEdges::anyNumberOfDayLines);
        Edge.edge("Terms 1", "(a MOUTH 1 to 20; a MOUTH; a MOUTH)", FrontEdges::pour1To20);
        Edge.edge("Terms 1", "40 lines at most", FrontEdges::fortyLines);
        Edge.edge("Terms 1", "WORD: 1 to 7 NAMES of LETTERS", FrontEdges::oneToSevenNames);
        Edge.edge("Terms 1", "behind each other, nothing else", FrontEdges::nothingElse);
        Edge.edge("Terms 1", "A NAME is another WORD than mouth, high, takes, holds, gutter, letter, of, rain, sounds, "
                + "minute, pour, stop, clear, the KINDS, not, and, or", FrontEdges::otherWords);
        Edge.edge("Terms 1", "no two (MOUTHS, LETTERS) are alike", FrontEdges::noTwoAlike);
        Edge.edge("Terms 1", "Without a FAULT a FRONT is the FRONT from then on", FrontEdges::theFrontFromThenOn);
        Edge.edge("Terms 1", "minute 0", FrontEdges::minuteZero);
        Edge.edge("Terms 1", "nothing stands anywhere", FrontEdges::nothingStands);
        Edge.edge("Terms 1", "those that are nests are STOPPED, the others not", FrontEdges::nestsStopped);
        Edge.edge("Terms 1", "the slate is empty", FrontEdges::slateEmpty);
        Edge.edge("Terms 1", "no DAY, no WORD", FrontEdges::noDayNoWord);
        Edge.edge("Terms 1", "nothing SEEN", FrontEdges::nothingSeen);
        Edge.edge("Terms 1", "nothing can be undone", FrontEdges::nothingToUndo);
        Edge.edge("Terms 1", "no MARK is there", FrontEdges::noMark);
        Edge.edge("Terms 1", "A DAY is the DAY, a WORD the WORD", FrontEdges::theDayTheWord);
        Edge.edge("Terms 1", "At first: nothing", FrontEdges::atFirstNothing);
    }

    private static String mouths(int n) {
        StringBuilder all = new StringBuilder();
        for (int i = 0; i < n; i++) {
            all.append("mouth ").append((char) ('a' + i)).append(" plain high ").append(i + 1)
                    .append(" takes ").append(i).append(" holds ").append(30 + i).append(';');
        }
        return all.toString();
    }

    private static void anyNumberOfLines() {
        StoneReaders x = new StoneReaders();
        Due.frontFault(x, 0, "");
        Due.frontFault(x, 0, "rain 1;");
        // 7 mouths, 6 gutters, 6 letters, rain and sounds, in an order of one's own.
        StringBuilder all = new StringBuilder("sounds flow;rain 9;" + mouths(7));
        for (char m = 'b'; m <= 'g'; m++) {
            all.append("letter l").append(m).append(" of a ").append(m).append(";gutter ").append(m).append(" a;");
        }
        Due.frontFault(x, 0, all.toString());
        Due.due("count(0)", x.count(0), 7);
        Due.due("count(1)", x.count(1), 6);
        Due.due("count(3)", x.count(3), 9);
        Due.due("up(0)", x.up(0), 126);
        Due.frontFault(x, 0, A + "letter l of a;" + B + "gutter a b;letter m of b;" + C);
        Due.due("count(0) of lines between", x.count(0), 3);
    }

    private static void sevenMouths() {
        StoneReaders x = new StoneReaders();
        Due.frontFault(x, 0, mouths(7));
        Due.due("count(0)", x.count(0), 7);
        for (int i = 0; i < 7; i++) {
            Due.due("mouth(" + i + ", 1)", x.mouth(i, 1), i + 1);
            Due.due("mouth(" + i + ", 2)", x.mouth(i, 2), i);
            Due.due("mouth(" + i + ", 3)", x.mouth(i, 3), 30 + i);
        }
        Due.frontFault(x, 5, mouths(7) + "^mouth h plain high 1 takes 1 holds 1;");
        Due.frontFault(x, 0, mouths(6));
        Due.due("count(0) of six", x.count(0), 6);
    }

    /** The seventh is as good as the others, in whatever is asked. */
    private static void allIsAskedOfSeven() {
        StringBuilder all = new StringBuilder();
        for (char m = 'a'; m <= 'g'; m++) {
            all.append("mouth ").append(m).append(" nest high ").append(m == 'g' ? 2 : 1).append(" takes ")
                    .append(m == 'g' ? 1 : 0).append(" holds 4;");
        }
        StoneReaders x = Due.told(all + "gutter g a;letter l of g;letter k of a b c d e f;rain 1;sounds 3<stands;");
        Due.due("first()", x.first(), 6);
        Due.due("look()", x.look(), 6);
        Due.due("aim(0, 0)", x.aim(0, 0), 3);
        Due.due("aim(0, 1)", x.aim(0, 1), 6);
        Due.due("when(0)", x.when(0), 4);
        Due.due("over(6)", x.over(6), 5);
        Due.due("down(6)", x.down(6), 1);
        Due.due("up(0)", x.up(0), 64);
        Due.due("chain()", x.chain(), 2);
        Due.due("twins(60)", x.twins(60), 21);
        x.clear(6);
        Due.due("great(60)", x.great(60), 6);
        Due.due("twins(60) but for the seventh", x.twins(60), 15);
        Due.due("hush(0)", x.hush(0), -1);
        x.pour(6, 4);
        Due.due("hush(0), the other way", x.hush(0), 64);
        Due.due("later(6, 1)", x.later(6, 1), 1);
        Due.due("see(6, false)", x.see(6, false), true);
        Due.due("rains(): 1 is left, or less than 4", x.rains(), 1023);
        x.stop(6);
        Due.due("rains() of one STOPPED", x.rains(), 0);
        Due.due("days(1, 1, 2)", x.days(1, 1, 2) >= 4, true);
        x.minute();
        Due.due("sounds()", x.sounds(), 64);
        Due.due("chance(0, 6, 5)", x.chance(0, 6, 5) >= 0, true);
        Due.due("count(5)", x.count(5), 127);
    }

    private static void kinds() {
        StoneReaders x = new StoneReaders();
        String[] kinds = {"plain", "wide", "slow", "nest"};
        for (int i = 0; i < 4; i++) {
            Due.frontFault(x, 0, "mouth a " + kinds[i] + " high 2 takes 1 holds 9;");
            Due.due("mouth(0, 0) of " + kinds[i], x.mouth(0, 0), i);
        }
        Due.frontFault(x, 1, "mouth a ^nests high 2 takes 1 holds 9;");
        Due.frontFault(x, 1, "mouth a ^wid high 2 takes 1 holds 9;");
        Due.frontFault(x, 1, "mouth a ^2 high 2 takes 1 holds 9;");
    }

    private static void limits(String text, int what, int least, int most) {
        StoneReaders x = new StoneReaders();
        for (int n : new int[] {least, least + 1, most - 1, most}) {
            Due.frontFault(x, 0, text.replace("N", "" + n).replace("^", ""));
            Due.due("mouth(0, " + what + ")", x.mouth(0, what), n);
        }
        Due.frontFault(x, 4, text.replace("N", "" + (most + 1)));
        Due.frontFault(x, 4, text.replace("N", "9999"));
        if (least > 0) {
            Due.frontFault(x, 4, text.replace("N", "" + (least - 1)));
        }
        Due.frontFault(x, 1, text.replace("N", "-1"));
        Due.frontFault(x, 1, text.replace("N ", "").replace("N", ""));
    }

    private static void high1To20() {
        limits("mouth a plain high ^N takes 1 holds 9;", 1, 1, 20);
    }

    private static void takes0To9() {
        limits("mouth a plain high 2 takes ^N holds 9;", 2, 0, 9);
    }

    private static void holds0To40() {
        limits("mouth a plain high 2 takes 1 holds ^N;", 3, 0, 40);
    }

    private static void gutterOfTwoTold() {
        StoneReaders x = new StoneReaders();
        Due.frontFault(x, 0, A + B + "gutter a b;");
        Due.due("mouth(0, 4)", x.mouth(0, 4), 1);
        Due.due("mouth(1, 4)", x.mouth(1, 4), -1);
        Due.frontFault(x, 2, A + "gutter a ^b;" + B);
        Due.frontFault(x, 2, B + "gutter ^a b;" + A);
        Due.frontFault(x, 1, A + B + "gutter a^;");
        Due.frontFault(x, 1, A + B + "gutter ^;");
        Due.frontFault(x, 1, ABC + "gutter a b ^c;");
    }

    private static void secondLower() {
        StoneReaders x = new StoneReaders();
        Due.frontFault(x, 0, A + B + "gutter a b;");
        Due.frontFault(x, 3, A + B + "gutter b ^a;");
        Due.frontFault(x, 3, A + C + "gutter a ^c;");
        Due.frontFault(x, 3, A + "gutter a ^a;");
        Due.frontFault(x, 0, "mouth t plain high 20 takes 1 holds 9;mouth u plain high 19 takes 1 holds 9;gutter t u;");
        Due.frontFault(x, 3, "mouth t plain high 20 takes 1 holds 9;mouth u plain high 19 takes 1 holds 9;gutter u ^t;");
    }

    private static void noneYet() {
        StoneReaders x = new StoneReaders();
        String d = "mouth d plain high 1 takes 1 holds 9;";
        Due.frontFault(x, 3, ABC + d + "gutter a b;gutter ^a d;");
        Due.frontFault(x, 3, ABC + d + "gutter a b;gutter ^a b;");
        Due.frontFault(x, 3, ABC + d + "gutter a b;gutter c b;gutter ^a d;");
        // To the same MOUTH from two, and on from one that is led to.
        Due.frontFault(x, 0, ABC + "gutter a b;gutter c b;");
        Due.frontFault(x, 0, A + B + "mouth t plain high 3 takes 1 holds 9;gutter t a;gutter a b;");
    }

    private static void sixLetters() {
        StoneReaders x = new StoneReaders();
        String[] of = {"a", "b", "c", "a b", "a c", "b c", "a b c"};
        int[] bits = {1, 2, 4, 3, 5, 6};
        StringBuilder six = new StringBuilder(ABC);
        for (int i = 0; i < 6; i++) {
            six.append("letter l").append((char) ('a' + i)).append(" of ").append(of[i]).append(';');
        }
        Due.frontFault(x, 0, six.toString());
        Due.due("count(1)", x.count(1), 6);
        for (int i = 0; i < 6; i++) {
            Due.due("letter(" + i + ")", x.letter(i), bits[i]);
        }
        Due.frontFault(x, 5, six + "^letter z of a b c;");
    }

    private static void of1To7() {
        StoneReaders x = new StoneReaders();
        Due.frontFault(x, 1, ABC + "letter l of^;");
        Due.frontFault(x, 0, ABC + "letter l of b;");
        Due.due("letter(0) of one", x.letter(0), 2);
        Due.frontFault(x, 0, mouths(7) + "letter l of g f e d c b a;letter m of g;");
        Due.due("letter(0) of seven", x.letter(0), 127);
        Due.due("letter(1) of the seventh", x.letter(1), 64);
        Due.frontFault(x, 2, A + "letter l of a ^b;" + B);
        Due.frontFault(x, 2, "letter l of ^a;" + A);
    }

    private static void noneTwice() {
        StoneReaders x = new StoneReaders();
        Due.frontFault(x, 3, ABC + "letter l of a ^a;");
        Due.frontFault(x, 3, ABC + "letter l of a b c ^a;");
        Due.frontFault(x, 3, mouths(7) + "letter l of a b c d e f g ^g;");
        Due.frontFault(x, 0, ABC + "letter l of a;letter m of b a;");
    }

    private static void noTwoOfTheSame() {
        StoneReaders x = new StoneReaders();
        Due.frontFault(x, 3, ABC + "letter l of a;letter m of a^;");
        Due.frontFault(x, 3, ABC + "letter l of a b c;letter k of a;letter m of c a b^;");
        Due.frontFault(x, 0, ABC + "letter l of a;letter m of a b;letter n of a b c;letter o of b c;");
    }

    private static void rain0To9() {
        StoneReaders x = new StoneReaders();
        Due.frontFault(x, 0, "rain 0 9 1;");
        for (int rain : new int[] {0, 9, 1}) {
            Due.due("count(3) in minute " + x.count(2), x.count(3), rain);
            x.minute();
        }
        Due.frontFault(x, 4, "rain ^10;");
        Due.frontFault(x, 4, "rain 0 9 ^10 1;");
        Due.frontFault(x, 1, "rain ^-1;");
    }

    private static void oneToTwelve() {
        StoneReaders x = new StoneReaders();
        Due.frontFault(x, 1, "rain^;");
        Due.frontFault(x, 0, "rain 4;");
        Due.frontFault(x, 0, "rain 1 2 3 4 5 6 7 8 9 1 2 3;");
        Due.minutes(x, 11);
        Due.due("count(3) of the twelfth", x.count(3), 3);
        Due.frontFault(x, 5, "rain 1 2 3 4 5 6 7 8 9 1 2 3 ^4;");
    }

    private static void againAndAgain() {
        StoneReaders x = new StoneReaders();
        Due.frontFault(x, 0, "rain 4;");
        Due.minutes(x, 3);
        Due.due("count(3) of one", x.count(3), 4);
        Due.frontFault(x, 0, "rain 1 2 3 4 5 6 7 8 9 1 2 3;");
        Due.minutes(x, 12);
        Due.due("count(3) in minute 12", x.count(3), 1);
        Due.minutes(x, 23);
        Due.due("count(3) in minute 35", x.count(3), 3);
        Due.minutes(x, 1);
        Due.due("count(3) in minute 36", x.count(3), 1);
        Due.frontFault(x, 0, "mouth a nest high 1 takes 9 holds 40;");
        Due.due("count(3) if none is told", x.count(3), 0);
        x.minute();
        Due.due("what stands then", x.mouth(0, 5), 0);
    }

    private static void onceEach() {
        StoneReaders x = new StoneReaders();
        Due.frontFault(x, 0, "rain 1;sounds flow;");
        Due.frontFault(x, 3, "rain 1;sounds flow;^rain 1;");
        Due.frontFault(x, 3, "rain 0;^rain 0;");
        Due.frontFault(x, 3, "sounds 0;^sounds 0;");
        Due.frontFault(x, 3, "sounds flow;rain 1;^sounds wet;");
    }

    private static void anyNumberOfDayLines() {
        StoneReaders x = Due.told(ABC);
        Due.dayFault(x, 0, "minute;");
        Due.due("count(8) of one", x.count(8), 1);
        Due.dayFault(x, 0, "");
        Due.due("count(8) of none", x.count(8), 0);
        Due.due("judged(0) of none", x.judged(0), -1);
        Due.dayFault(x, 0, "clear a;stop b;pour c 1;minute;clear a;");
        Due.due("count(8) of five", x.count(8), 5);
    }

    private static void pour1To20() {
        StoneReaders x = Due.told(ABC);
        Due.dayFault(x, 0, "pour a 1;pour c 20;stop a;stop c;clear a;clear c;");
        Due.dayFault(x, 4, "pour a ^0;");
        Due.dayFault(x, 4, "pour a ^21;");
        Due.dayFault(x, 1, "pour a^;");
        Due.dayFault(x, 1, "stop a ^1;");
        Due.dayFault(x, 1, "clear^;");
        Due.dayFault(x, 1, "stop^;");
        Due.dayFault(x, 1, "minute ^a;");
        // 20 are poured indeed, and 1.
        Due.dayFault(x, 0, "pour b 20;minute;minute;minute;minute;");
        Due.due("judged(2) of 9 that stay", x.judged(2), 3);
        Due.dayFault(x, 0, "pour b 1;minute;minute;");
        Due.due("judged(2) of 1", x.judged(2), 1);
    }

    private static void fortyLines() {
        StoneReaders x = Due.told(ABC);
        Due.dayFault(x, 0, "minute;".repeat(39));
        Due.due("count(8)", x.count(8), 39);
        Due.dayFault(x, 0, "minute;".repeat(39) + "clear a;");
        Due.due("count(8)", x.count(8), 40);
        Due.due("judged(0) of the fortieth", x.judged(0), 39);
        Due.dayFault(x, 5, "minute;".repeat(40) + "^minute;");
        Due.due("count(8) behind it", x.count(8), 40);
    }

    private static void oneToSevenNames() {
        StoneReaders x = Due.told(ABC + "letter l of a;letter m of b;");
        Due.wordFault(x, 1, "^");
        Due.wordFault(x, 1, " \n^");
        Due.wordFault(x, 0, "m");
        Due.due("count(9)", x.count(9), 1);
        Due.wordFault(x, 0, "l l l l l l m");
        Due.due("count(9)", x.count(9), 7);
        Due.wordFault(x, 5, "l l l l l l m ^l");
        Due.due("count(9) behind it", x.count(9), 7);
    }

    private static void nothingElse() {
        StoneReaders x = Due.told(ABC + "letter l of a;letter m of b;");
        Due.wordFault(x, 1, "l m^;");
        Due.wordFault(x, 1, "l ^1 m");
        Due.wordFault(x, 1, "^(l)");
        Due.wordFault(x, 1, "^letter l");
        Due.wordFault(x, 1, "l ^and m");
        Due.wordFault(x, 1, "l m l m l m l^;");
    }

    private static void otherWords() {
        for (String word : ("mouth high takes holds gutter letter of rain sounds minute pour stop clear "
                + "plain wide slow nest not and or").split(" ")) {
            StoneReaders x = new StoneReaders();
            Due.frontFault(x, 1, "mouth ^" + word + " plain high 2 takes 1 holds 9;");
            Due.frontFault(x, 1, A + "letter ^" + word + " of a;");
            Due.frontFault(x, 1, A + "gutter ^" + word + " a;");
            Due.frontFault(x, 1, A + "gutter a ^" + word + ";");
            Due.frontFault(x, 1, A + "letter l of ^" + word + ";");
            Due.frontFault(x, 1, A + "letter l of a ^" + word + ";");
            Due.dayFault(x, 1, "stop ^" + word + ";");
            Due.wordFault(x, 1, "^" + word);
            // A letter more, a letter less: it's a NAME.
            Due.frontFault(x, 0, "mouth " + word + "s plain high 2 takes 1 holds 9;");
            Due.frontFault(x, 0, "mouth " + word.substring(1) + " plain high 2 takes 1 holds 9;");
        }
        for (String word : "flow stands tall wet day word front".split(" ")) {
            StoneReaders x = new StoneReaders();
            Due.frontFault(x, 0, "mouth " + word + " plain high 2 takes 1 holds 9;letter l of " + word + ";");
            Due.dayFault(x, 0, "stop " + word + ";");
            Due.frontFault(x, 0, A + "letter " + word + " of a;");
            Due.wordFault(x, 0, word);
        }
    }

    private static void noTwoAlike() {
        StoneReaders x = new StoneReaders();
        Due.frontFault(x, 3, A + "mouth ^a wide high 3 takes 2 holds 8;");
        Due.frontFault(x, 3, A + B + "mouth ^a wide high 3 takes 2 holds 8;");
        Due.frontFault(x, 3, A + B + "letter ^a of b;");
        Due.frontFault(x, 3, A + B + "letter ^b of b;");
        Due.frontFault(x, 3, A + "letter b of a;mouth ^b plain high 2 takes 1 holds 9;");
        Due.frontFault(x, 3, A + B + "letter l of a;letter ^l of b;");
        Due.frontFault(x, 3, ABC + "letter l of a;letter m of b;letter ^l of c;");
        // An earlier FRONT's NAMES are not told in this one.
        Due.frontFault(x, 0, ABC + "letter l of a;");
        Due.frontFault(x, 0, "mouth l plain high 2 takes 1 holds 9;letter a of l;");
        Due.frontFault(x, 2, "gutter ^a b;");
    }

    /** A FRONT on which all has been done, and that is told again then. */
    private static StoneReaders doneAndToldAgain() {
        String front = A + "mouth n nest high 1 takes 1 holds 9;letter l of a;letter m of a n;rain 5 6;";
        StoneReaders x = Due.told(front);
        Due.day(x, "minute;clear n;");
        Due.word(x, "l m");
        x.see(0, true);
        x.minute();
        x.clear(1);
        x.stop(0);
        x.minute();
        x.pour(0, 3);
        for (int i = 0; i < 4; i++) {
            x.mark(i, false);
        }
        Due.due("minute() ahead of telling again", x.minute(), 6);
        Due.frontFault(x, 0, front);
        return x;
    }

    private static void theFrontFromThenOn() {
        StoneReaders x = Due.told(ABC + "letter l of a;rain 5;sounds 0;");
        Due.frontFault(x, 0, "mouth q wide high 7 takes 2 holds 8;letter z of q;rain 3;");
        Due.due("count(0)", x.count(0), 1);
        Due.due("count(1)", x.count(1), 1);
        Due.due("count(3)", x.count(3), 3);
        Due.due("mouth(0, 1)", x.mouth(0, 1), 7);
        Due.due("minute(), by flow again", x.minute(), 0);
        Due.frontFault(x, 0, "");
        Due.due("count(0) of an empty one", x.count(0), 0);
        Due.due("count(1) of an empty one", x.count(1), 0);
        Due.due("count(3) of an empty one", x.count(3), 0);
        Due.due("letter(0) of an empty one", x.letter(0), -1);
        Due.due("mouth(0, 1) of an empty one", x.mouth(0, 1), -2);
    }

    private static void minuteZero() {
        StoneReaders x = doneAndToldAgain();
        Due.due("count(2)", x.count(2), 0);
        Due.due("count(3)", x.count(3), 5);
    }

    private static void nothingStands() {
        StoneReaders x = doneAndToldAgain();
        Due.due("count(4)", x.count(4), 0);
        Due.due("mouth(0, 5)", x.mouth(0, 5), 0);
        Due.due("mouth(1, 5)", x.mouth(1, 5), 0);
        Due.due("dry()", x.dry(), 0);
    }

    private static void nestsStopped() {
        StoneReaders x = doneAndToldAgain();
        Due.due("count(5)", x.count(5), 2);
        Due.due("mouth(0, 6)", x.mouth(0, 6), 0);
        Due.due("mouth(1, 6)", x.mouth(1, 6), 1);
        Due.frontFault(x, 0, "mouth n nest high 1 takes 1 holds 1;mouth p plain high 1 takes 1 holds 1;"
                + "mouth s slow high 1 takes 1 holds 1;mouth w wide high 1 takes 1 holds 1;mouth m nest high 1 takes 1 holds 1;");
        Due.due("count(5) of n p s w m", x.count(5), 17);
    }

    private static void slateEmpty() {
        StoneReaders x = doneAndToldAgain();
        Due.due("count(6)", x.count(6), 0);
        Due.due("count(7)", x.count(7), 0);
        Due.due("slate(0)", x.slate(0), -1);
        Due.due("often()", x.often(), -1);
    }

    private static void noDayNoWord() {
        StoneReaders x = doneAndToldAgain();
        Due.due("count(8)", x.count(8), 0);
        Due.due("judged(1)", x.judged(1), -1);
        Due.due("count(9)", x.count(9), 0);
        x.minute();
        Due.due("maybe()", x.maybe(), -1);
        Due.due("entire()", x.entire(), -1);
    }

    private static void nothingSeen() {
        StoneReaders x = doneAndToldAgain();
        Due.due("count(10)", x.count(10), 0);
        Due.due("rains()", x.rains(), 1023);
    }

    private static void nothingToUndo() {
        StoneReaders x = doneAndToldAgain();
        Due.due("count(11)", x.count(11), 0);
        Due.due("undo()", x.undo(), false);
    }

    private static void noMark() {
        StoneReaders x = doneAndToldAgain();
        for (int i = 0; i < 4; i++) {
            Due.due("mark(" + i + ", true)", x.mark(i, true), false);
        }
    }

    private static void theDayTheWord() {
        StoneReaders x = Due.told(ABC + "letter l of a;letter m of b;letter z of a b c;rain 1;");
        Due.day(x, "minute;minute;");
        Due.word(x, "l m");
        x.minute();
        Due.day(x, "clear a;minute;stop a;");
        Due.due("count(8)", x.count(8), 3);
        Due.due("judged(0)", x.judged(0), 0);
        Due.due("judged(1)", x.judged(1), 1);
        Due.word(x, "z");
        Due.due("count(9)", x.count(9), 1);
        Due.due("stands()", x.stands(), 0);
        // All else is as it was.
        Due.due("count(2)", x.count(2), 1);
        Due.due("count(11)", x.count(11), 1);
    }

    private static void atFirstNothing() {
        StoneReaders x = new StoneReaders();
        for (int what = 0; what <= 12; what++) {
            Due.due("count(" + what + ")", x.count(what), 0);
        }
        Due.due("mouth(0, 0)", x.mouth(0, 0), -2);
        Due.due("letter(0)", x.letter(0), -1);
        Due.due("judged(0)", x.judged(0), -1);
        Due.due("judged(1)", x.judged(1), -1);
        Due.due("judged(2)", x.judged(2), 0);
        Due.due("undo()", x.undo(), false);
        for (int i = 0; i < 4; i++) {
            Due.due("mark(" + i + ", true)", x.mark(i, true), false);
        }
        Due.dayFault(x, 2, "stop ^a;");
        Due.wordFault(x, 2, "^a");
        Due.dayFault(x, 0, "minute;");
        Due.due("judged(1) of a MINUTE", x.judged(1), -1);
    }
}
