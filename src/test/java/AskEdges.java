import java.math.BigInteger;

/** Boundary cases of what to pour and to stop, of unknown and odd rain, the PLUMBER, DRAWS and MARKS: Terms 3, from AIM on. */
final class AskEdges {
    private static final BigInteger M = BigInteger.valueOf(2147483648L);

    private AskEdges() {
    }

    static void run() {
        Edge.edge("Terms 3", "the least water (0 to 20)", AskEdges::aim0To20);
        Edge.edge("Terms 3", "(0: into none)", AskEdges::aimIntoNone);
        Edge.edge("Terms 3", "of equal ones the first MOUTH: how much; where", AskEdges::aimFirstMouth);
        Edge.edge("Terms 3", "the fewest MOUTHS that are to be STOPPED, or CLEARED, each the other way", AskEdges::hushFewest);
        Edge.edge("Terms 3", "of equal ones the least set (bits)", AskEdges::hushLeastSet);
        Edge.edge("Terms 3", "in an unknown rain (0 to 9)", AskEdges::rains0To9);
        Edge.edge("Terms 3", "8 at most", AskEdges::eightSeen);
        Edge.edge("Terms 3", "all being as it is when it is asked (bits)", AskEdges::asItIsWhenAsked);
        Edge.edge("Terms 3", "is the least, if that is less than all", AskEdges::lookLessThanAll);
        Edge.edge("Terms 3", "if that is less than all; of equal ones the first", AskEdges::lookFirstMouth);
        Edge.edge("Terms 3", "each of so many (1 to 6) MINUTES", AskEdges::chance1To6);
        Edge.edge("Terms 3", "has a rain of 9 by odds of ten, else of 0, in place of what is told", AskEdges::chanceOfNineOrZero);
        Edge.edge("Terms 3", "that a LETTER is READ in the last one, in millionths, cut", AskEdges::chanceInMillionths);
        Edge.edge("Terms 3", "both pull: each loses so much (0 to 9)", AskEdges::restsLose);
        Edge.edge("Terms 3", "one pulls: he gets so much (0 to 9), the other one so much (0 to 9)", AskEdges::restsGet);
        Edge.edge("Terms 3", "both hold: nothing", AskEdges::restsHold);
        Edge.edge("Terms 3", "by which neither would get more by the other", AskEdges::restsEqual);
        Edge.edge("Terms 3", "g becomes (g * 1103515245 + 12345) modulo 2147483648 (g is the SEED at first)", AskEdges::drawModulo);
        Edge.edge("Terms 3", "it is g / 65536, cut, modulo m", AskEdges::drawCut);
        Edge.edge("Terms 3", "DAYS by a SEED of so many MINUTES (1 to 99), from now on (all is as ahead then)", AskEdges::days1To99);
        Edge.edge("Terms 3", "if there are MOUTHS", AskEdges::daysWithoutMouths);
        Edge.edge("Terms 3", "a DRAW below 9 and 1 is POURED", AskEdges::daysPoured);
        Edge.edge("Terms 3", "1: it is STOPPED, 2: CLEARED (each if it can be)", AskEdges::daysIfItCanBe);
        Edge.edge("Terms 3", "how many LETTERS are READ in these, whatever room the slate has; how many HOLES, likewise", AskEdges::daysOnAFullSlate);
        Edge.edge("Terms 3", "how much stands in all at last, together", AskEdges::daysAtLast);
        Edge.edge("Terms 3", "MARKS 0 to 3", AskEdges::marks0To3);
        Edge.edge("Terms 3", "hold how it is, the slate, the DAY, the WORD, what is SEEN", AskEdges::marksHold);
        Edge.edge("Terms 3", "the DAY, the WORD, what is SEEN", AskEdges::marksHoldEachPart);
        Edge.edge("Terms 3", "nothing can be undone when one is gone back to", AskEdges::marksUndoNothing);
    }

    private static void aim(StoneReaders x, int letter, int water, int mouth) {
        Due.due("aim(" + letter + ", 0)", x.aim(letter, 0), water);
        Due.due("aim(" + letter + ", 1)", x.aim(letter, 1), mouth);
    }

    private static void aim0To20() {
        StoneReaders x = Due.told("mouth a nest high 1 takes 0 holds 40;mouth b nest high 1 takes 0 holds 40;"
                + "letter l of a;letter m of b;sounds stands=22;");
        aim(x, 0, -2, -2);
        x.pour(0, 1);
        aim(x, 0, -2, -2);
        x.pour(0, 1);
        aim(x, 0, 20, 0);
        x.pour(0, 19);
        aim(x, 0, 1, 0);
        aim(x, 1, -2, -2);
        x.pour(0, 1);
        aim(x, 0, 0, -1);
        x.pour(0, 1);
        aim(x, 0, -2, -2);
        // 99 at most: a's 99 come down as 40, 40 and 19, and what is more is cut there, but not in b.
        StoneReaders y = chainOfNests("sounds tall=1 and stands=19;");
        StoneReaders z = chainOfNests("sounds tall=1 and stands=20;");
        for (int i = 0; i < 4; i++) {
            y.pour(0, 20);
            z.pour(0, 20);
        }
        aim(y, 0, 19, 0);
        aim(z, 0, 20, 1);
        y.pour(0, 18);
        z.pour(0, 18);
        aim(y, 0, 1, 0);
        aim(z, 0, 2, 1);
        y.pour(0, 1);
        aim(y, 0, 0, -1);
    }

    private static StoneReaders chainOfNests(String law) {
        return Due.told("mouth a nest high 3 takes 0 holds 40;mouth b nest high 2 takes 0 holds 40;mouth c nest high 1 takes 0 holds 40;"
                + "gutter a b;gutter b c;letter l of c;" + law);
    }

    private static void aimIntoNone() {
        StoneReaders x = Due.told("mouth a plain high 1 takes 1 holds 40;letter l of a;rain 1 0;");
        aim(x, 0, 0, -1);
        x.minute();
        aim(x, 0, 1, 0);
        Due.due("aim(0, 2)", x.aim(0, 2), -2);
        Due.due("count(4): nothing is POURED", x.count(4), 0);
        Due.due("count(2): nothing goes by", x.count(2), 1);
    }

    private static void aimFirstMouth() {
        StoneReaders y = Due.told("mouth low plain high 1 takes 0 holds 40;mouth hi nest high 2 takes 0 holds 0;mouth top nest high 3 takes 0 holds 0;"
                + "gutter hi low;gutter top hi;letter l of low;");
        aim(y, 0, 1, 0);
        y.stop(0);
        aim(y, 0, -2, -2);
        // The least water ahead of the first MOUTH: 2 into the second one, 5 into the first one.
        StoneReaders z = Due.told("mouth p nest high 9 takes 0 holds 3;mouth q nest high 5 takes 0 holds 0;mouth r plain high 1 takes 0 holds 2;"
                + "gutter p r;gutter q r;letter l of r;sounds tall=1 and flow=2;");
        aim(z, 0, 2, 1);
        z.pour(0, 2);
        aim(z, 0, 2, 1);
        z.pour(0, 1);
        aim(z, 0, 2, 0);
    }

    private static void hushFewest() {
        StoneReaders x = Due.told("mouth a plain high 1 takes 1 holds 9;mouth b plain high 1 takes 1 holds 9;mouth n nest high 1 takes 1 holds 9;"
                + "letter ab of a b;letter abn of a b n;letter nn of n;letter aa of a;rain 1 0;");
        Due.due("hush(0), none", x.hush(0), 0);
        Due.due("hush(1), CLEARED", x.hush(1), 4);
        Due.due("hush(2), two STOPPED and one CLEARED", x.hush(2), 7);
        Due.due("hush(3), STOPPED", x.hush(3), 2);
        x.stop(0);
        Due.due("hush(0), CLEARED", x.hush(0), 1);
        Due.due("hush(3), the other way", x.hush(3), 3);
        Due.due("hush(4)", x.hush(4), -1);
        Due.due("count(5): nothing is done", x.count(5), 5);
        x.clear(0);
        x.minute();
        Due.due("hush(0) in the dry", x.hush(0), -1);
        Due.due("hush(2) in the dry: 1 stands in n", x.hush(2), 4);
        StringBuilder seven = new StringBuilder();
        for (char m = 'a'; m <= 'g'; m++) {
            seven.append("mouth ").append(m).append(" nest high 1 takes 1 holds 9;");
        }
        StoneReaders y = Due.told(seven + "letter l of a b c d e f g;letter gg of g;rain 1;");
        Due.due("hush(0) of all seven", y.hush(0), 127);
        Due.due("hush(1) of the seventh", y.hush(1), 64);
    }

    private static void hushLeastSet() {
        // What is STOPPED changes this MOUTH alone: where either way will do, the fewest are without it.
        StoneReaders x = Due.told("mouth a plain high 1 takes 1 holds 9;mouth b plain high 2 takes 1 holds 9;mouth c plain high 3 takes 1 holds 9;"
                + "letter l of b c;letter k of a b c;rain 1;sounds tall=1 and flow or 1<tall;");
        Due.due("hush(0)", x.hush(0), 1);
        Due.due("hush(1)", x.hush(1), 0);
    }

    private static void rains0To9() {
        StoneReaders x = Due.told("mouth a nest high 1 takes 1 holds 40;mouth b nest high 1 takes 1 holds 40;rain 5;sounds stands=9 or wet=0 or wet=10;");
        Due.due("rains() of nothing SEEN", x.rains(), 1023);
        x.see(0, true);
        Due.due("rains() by 0 and 9", x.rains(), 1 + 512);
        x.see(1, false);
        Due.due("rains() by none", x.rains(), 0);
        StoneReaders y = Due.told("mouth a nest high 1 takes 1 holds 40;rain 5;sounds wet=9;");
        y.see(0, false);
        Due.due("rains() by 0 to 8", y.rains(), 511);
        Due.due("rains() without MOUTHS", new StoneReaders().rains(), 1023);
    }

    private static void eightSeen() {
        StoneReaders x = Due.told("mouth a nest high 1 takes 1 holds 40;mouth b nest high 1 takes 1 holds 40;sounds wet;");
        for (int i = 0; i < 8; i++) {
            Due.due("see() of the " + (i + 1) + "th", x.see(i % 2, true), true);
            Due.due("count(10)", x.count(10), i + 1);
        }
        Due.due("see() of a ninth", x.see(0, false), false);
        Due.due("count(10)", x.count(10), 8);
        Due.due("rains()", x.rains(), 1022);
        // The eighth counts.
        StoneReaders y = Due.told("mouth a nest high 1 takes 1 holds 40;mouth b nest high 1 takes 1 holds 40;sounds wet;");
        for (int i = 0; i < 7; i++) {
            y.see(0, true);
        }
        y.see(1, false);
        Due.due("rains() by the eighth", y.rains(), 0);
        // Each of its MOUTH: a SOUNDS by 1 and more, b by none.
        StoneReaders z = Due.told("mouth a nest high 1 takes 1 holds 40;mouth b nest high 2 takes 1 holds 40;sounds wet and tall=1;");
        for (int i = 0; i < 8; i++) {
            z.see(i % 2, i % 2 == 0);
            Due.due("rains() by " + (i + 1), z.rains(), 1022);
        }
    }

    private static void asItIsWhenAsked() {
        StoneReaders x = Due.told("mouth a plain high 1 takes 1 holds 40;rain 9 0;sounds 4<flow+stands;");
        x.see(0, true);
        Due.due("rains() of 5 and more", x.rains(), 1023 - 31);
        x.pour(0, 2);
        Due.due("rains() of 3 and more", x.rains(), 1023 - 7);
        x.undo();
        Due.due("rains() behind undoing", x.rains(), 1023 - 31);
        x.minute();
        // 6 stand there now.
        Due.due("rains() behind a MINUTE", x.rains(), 1023);
        Due.due("count(10)", x.count(10), 1);
        Due.due("count(2): nothing goes by", x.count(2), 1);
        x.stop(0);
        Due.due("rains() behind a STOP", x.rains(), 1023);
        Due.due("the rain that is told stays", x.count(3), 0);
    }

    private static void lookLessThanAll() {
        StoneReaders x = Due.told("mouth a nest high 1 takes 0 holds 40;mouth b nest high 2 takes 1 holds 40;sounds 0<stands;");
        Due.due("look(): 9 of 10 are less than all", x.look(), 1);
        x.see(1, true);
        Due.due("look(): 9 of 9 are not", x.look(), -1);
        x.see(1, false);
        Due.due("look() of no rain at all", x.look(), -1);
        StoneReaders y = Due.told("mouth a nest high 1 takes 0 holds 40;mouth b nest high 2 takes 1 holds 40;sounds stands=9;");
        Due.due("look(): one by which it SOUNDS", y.look(), 1);
        StoneReaders z = Due.told("mouth a nest high 1 takes 0 holds 40;mouth b nest high 2 takes 1 holds 40;sounds 1;");
        Due.due("look() if all SOUND always", z.look(), -1);
        Due.due("look() without MOUTHS", new StoneReaders().look(), -1);
        x = Due.told("mouth a nest high 1 takes 1 holds 40;mouth b nest high 2 takes 1 holds 40;rain 1;sounds tall=1 and wet<5 or (tall=2 and wet<4);");
        for (int i = 0; i < 3; i++) {
            Due.due("great(9)", x.great(9), 0);
            Due.due("look() of 5 and 6", x.look(), 0);
            Due.due("look() of 5 and 6, asked again", x.look(), 0);
        }
        // The least: 5 of 10 ahead of 6 of 10, whichever way.
        StoneReaders w = Due.told("mouth a nest high 1 takes 1 holds 40;mouth b nest high 2 takes 1 holds 40;mouth c nest high 3 takes 1 holds 40;"
                + "sounds tall=1 and wet<4 or (tall=2 and wet<5) or (tall=3 and wet<6);");
        Due.due("look() of 6, 5 and 6", w.look(), 1);
    }

    private static void lookFirstMouth() {
        StoneReaders x = Due.told("mouth n nest high 9 takes 0 holds 40;mouth a nest high 1 takes 1 holds 40;mouth b nest high 2 takes 1 holds 40;"
                + "sounds tall=1 and wet<4 or (tall=2 and wet<6);");
        Due.due("look() of 4 of 10 and 6 of 10", x.look(), 1);
        StoneReaders y = Due.told("mouth n nest high 9 takes 0 holds 40;mouth a nest high 1 takes 1 holds 40;mouth b nest high 2 takes 1 holds 40;"
                + "sounds tall=1 and wet<6 or (tall=2 and wet<4);");
        Due.due("look() of 6 of 10 and 4 of 10", y.look(), 1);
    }

    private static void chance1To6() {
        StoneReaders x = Due.told("mouth a nest high 1 takes 1 holds 40;letter l of a;sounds stands=9;rain 9;");
        int[] want = {-1, 500000, 500000, 375000, 250000, 156250, 93750, -1};
        for (int minutes = 0; minutes <= 7; minutes++) {
            Due.due("chance(0, " + minutes + ", 5)", x.chance(0, minutes, 5), want[minutes]);
        }
        Due.due("chance(0, -1, 5)", x.chance(0, -1, 5), -1);
        Due.due("chance(1, 1, 5)", x.chance(1, 1, 5), -1);
        Due.due("chance(-1, 1, 5)", x.chance(-1, 1, 5), -1);
    }

    private static void chanceOfNineOrZero() {
        // Told is a rain of 5, that never falls then.
        StoneReaders x = Due.told("mouth a nest high 1 takes 1 holds 40;mouth b nest high 2 takes 1 holds 40;letter l of a;letter m of b;letter k of a b;"
                + "sounds tall=1 and wet=9 or (tall=2 and wet=0);rain 5;");
        for (int odds = 0; odds <= 10; odds++) {
            Due.due("chance(0, 1, " + odds + ")", x.chance(0, 1, odds), odds * 100000);
            Due.due("chance(1, 6, " + odds + ")", x.chance(1, 6, odds), (10 - odds) * 100000);
            Due.due("chance(2, 3, " + odds + ")", x.chance(2, 3, odds), 0);
        }
        Due.due("chance(0, 1, -1)", x.chance(0, 1, -1), -1);
        Due.due("chance(0, 1, 11)", x.chance(0, 1, 11), -1);
        Due.due("count(2): nothing goes by", x.count(2), 0);
        Due.due("count(4): nothing stands", x.count(4), 0);
    }

    private static void chanceInMillionths() {
        // READ if it has rained in each, in none of six, in just one.
        StoneReaders x = Due.told("mouth a nest high 1 takes 1 holds 40;mouth b nest high 2 takes 1 holds 9;letter l of a;letter m of b;letter k of a b;"
                + "sounds stands=36 and tall=1;");
        Due.due("chance(0, 4, 1)", x.chance(0, 4, 1), 100);
        Due.due("chance(0, 5, 1)", x.chance(0, 5, 1), 5 * 9 * 10);
        Due.due("chance(0, 6, 1)", x.chance(0, 6, 1), 15 * 81);
        x.pour(0, 20);
        x.pour(0, 16);
        // 36 stay if no rain falls; by any other 40 stand there.
        Due.due("chance(0, 6, 9)", x.chance(0, 6, 9), 1);
        Due.due("chance(0, 6, 10)", x.chance(0, 6, 10), 0);
        Due.due("chance(0, 6, 0)", x.chance(0, 6, 0), 1000000);
        Due.due("chance(0, 6, 1) of none", x.chance(0, 6, 1), 531441);
        // In the last one, not in an earlier one; a full slate does not matter.
        StoneReaders y = Due.told("mouth a plain high 1 takes 0 holds 40;letter l of a;sounds wet;rain 9;");
        Due.minutes(y, 41);
        Due.due("chance(0, 6, 7)", y.chance(0, 6, 7), 700000);
    }

    private static void rest(int lose, int pulls, int holds, int... want) {
        StoneReaders x = new StoneReaders();
        String call = "rests(" + lose + ", " + pulls + ", " + holds + ", ";
        Due.due(call + "NONE)", x.rests(lose, pulls, holds, -1), want.length);
        for (int i = 0; i < want.length; i++) {
            Due.due(call + i + ")", x.rests(lose, pulls, holds, i), want[i]);
        }
        Due.restsThrow(x, lose, pulls, holds, want.length);
    }

    private static void restsLose() {
        rest(0, 5, 0, 1, 2, 3);
        rest(1, 5, 0, 1, 2);
        rest(9, 5, 0, 1, 2);
        StoneReaders x = new StoneReaders();
        Due.restsThrow(x, -1, 5, 1, -1);
        Due.restsThrow(x, 10, 5, 1, -1);
    }

    private static void restsGet() {
        rest(1, 0, 9, 0, 1, 2);
        rest(1, 1, 9, 1, 2);
        rest(1, 9, 9, 1, 2);
        rest(0, 9, 0, 1, 2, 3);
        rest(0, 9, 1, 1, 2);
        StoneReaders x = new StoneReaders();
        Due.restsThrow(x, 1, -1, 1, -1);
        Due.restsThrow(x, 1, 10, 1, -1);
        Due.restsThrow(x, 1, 1, -1, -1);
        Due.restsThrow(x, 1, 1, 10, -1);
    }

    private static void restsHold() {
        // Both hold: 0 each, from which one would go for 1, not for 0.
        rest(5, 0, 5, 0, 1, 2);
        rest(5, 1, 5, 1, 2);
    }

    private static void restsEqual() {
        rest(0, 0, 0, 0, 1, 2, 3);
        rest(0, 0, 1, 0, 1, 2);
        rest(1, 0, 0, 0, 1, 2);
        rest(0, 1, 0, 1, 2, 3);
    }

    /** Answers the next DRAW's g. */
    private static BigInteger next(BigInteger g) {
        return g.multiply(BigInteger.valueOf(1103515245)).add(BigInteger.valueOf(12345)).mod(M);
    }

    /** What stands at last in MOUTHS without rain, all nests that hold 40, that give nothing off: DAYS, DRAW by DRAW. */
    private static int[] drawnWater(int seed, int minutes, int mouths) {
        BigInteger g = BigInteger.valueOf(seed);
        int[] water = new int[mouths];
        boolean[] clear = new boolean[mouths];
        for (int i = 0; i < minutes; i++) {
            g = next(g);
            int mouth = g.shiftRight(16).intValue() % mouths;
            g = next(g);
            int act = g.shiftRight(16).intValue() % 5;
            if (act == 0) {
                g = next(g);
                water[mouth] = Math.min(99, water[mouth] + g.shiftRight(16).intValue() % 9 + 1);
            } else if (act < 3) {
                clear[mouth] = act == 2;
            }
            for (int m = 0; m < mouths; m++) {
                water[m] = Math.min(40, water[m]);
                water[m] -= clear[m] ? Math.min(3, water[m]) : 0;
            }
        }
        return water;
    }

    private static StoneReaders nests(int mouths) {
        StringBuilder all = new StringBuilder();
        for (int i = 0; i < mouths; i++) {
            all.append("mouth ").append((char) ('a' + i)).append(" nest high 1 takes 0 holds 40;");
        }
        return Due.told(all.toString());
    }

    private static int sum(int[] water) {
        int sum = 0;
        for (int w : water) {
            sum += w;
        }
        return sum;
    }

    private static void drawModulo() {
        StoneReaders x = nests(7);
        for (int seed : new int[] {0, 1, 2, 17, 4321, 9998, 9999}) {
            for (int minutes : new int[] {1, 2, 10, 99}) {
                Due.due("days(" + seed + ", " + minutes + ", 2)", x.days(seed, minutes, 2), sum(drawnWater(seed, minutes, 7)));
            }
        }
        // The SEED is anew the first g of each call.
        Due.due("days(17, 99, 2) again", x.days(17, 99, 2), sum(drawnWater(17, 99, 7)));
    }

    private static void drawCut() {
        for (int mouths = 1; mouths <= 7; mouths++) {
            StoneReaders x = nests(mouths);
            for (int seed = 0; seed < 40; seed++) {
                Due.due("days(" + seed + ", 9, 2) of " + mouths, x.days(seed, 9, 2), sum(drawnWater(seed, 9, mouths)));
            }
        }
    }

    private static void days1To99() {
        StoneReaders x = Due.told("mouth a plain high 1 takes 1 holds 9;letter l of a;rain 1 0 2;sounds 1;");
        x.minute();
        x.pour(0, 2);
        Due.due("days(3, 0, 0)", x.days(3, 0, 0), -1);
        Due.due("days(3, 1, 0)", x.days(3, 1, 0), 1);
        Due.due("days(3, 99, 0)", x.days(3, 99, 0), 99);
        Due.due("days(3, 100, 0)", x.days(3, 100, 0), -1);
        Due.due("days(3, -1, 0)", x.days(3, -1, 0), -1);
        Due.due("days(0, 1, 0)", x.days(0, 1, 0), 1);
        Due.due("days(9999, 1, 0)", x.days(9999, 1, 0), 1);
        Due.due("days(-1, 1, 0)", x.days(-1, 1, 0), -1);
        Due.due("days(10000, 1, 0)", x.days(10000, 1, 0), -1);
        // All is as ahead then.
        int[] want = {1, 1, 1, 0, 2, 0, 1, 0, 0, 0, 0, 2, 0};
        for (int what = 0; what <= 12; what++) {
            Due.due("count(" + what + ")", x.count(what), want[what]);
        }
        Due.due("mouth(0, 7)", x.mouth(0, 7), 1);
        Due.due("sounds()", x.sounds(), 1);
        Due.due("last()", x.last(), 0);
        // From now on: the water that stands there, the rain that comes, who is STOPPED.
        Due.due("days(1, 1, 2): 2 and none", x.days(1, 1, 2), 0);
        x.stop(0);
        Due.due("days(1, 1, 2) of one STOPPED", x.days(1, 1, 2), 2);
        x.minute();
        Due.due("days(1, 1, 2) in a rain of 2", x.days(1, 1, 2), 4);
    }

    private static void daysWithoutMouths() {
        StoneReaders x = Due.told("rain 1;sounds 1;");
        for (int what = 0; what < 3; what++) {
            Due.due("days(5, 99, " + what + ")", x.days(5, 99, what), 0);
        }
        Due.due("days(5, 99, 3)", x.days(5, 99, 3), -1);
    }

    private static void daysPoured() {
        // By 9 SEEDS of the first 200, of one MOUTH, 1 to 9 are POURED in the one MINUTE.
        StoneReaders x = nests(1);
        boolean[] poured = new boolean[11];
        for (int seed = 0; seed < 200; seed++) {
            int water = x.days(seed, 1, 2);
            Due.due("days(" + seed + ", 1, 2)", water, drawnWater(seed, 1, 1)[0]);
            poured[Math.min(Math.max(water, 0), 10)] = true;
        }
        for (int water = 0; water <= 10; water++) {
            Due.due(water + " are POURED by a SEED", poured[water], water <= 9);
        }
        // 99 at most, also by a DRAW: a is full to that, and holds 40, as b does, which leaves 19 for c.
        StoneReaders y = chainOfNests("");
        for (int i = 0; i < 5; i++) {
            y.pour(0, 20);
        }
        for (int seed = 0; seed < 60; seed++) {
            BigInteger g = next(BigInteger.valueOf(seed));
            boolean intoA = g.shiftRight(16).intValue() % 3 == 0;
            g = next(g);
            int act = g.shiftRight(16).intValue() % 5;
            int more = act == 0 && !intoA ? next(g).shiftRight(16).intValue() % 9 + 1 : 0;
            Due.due("days(" + seed + ", 1, 2) at 99", y.days(seed, 1, 2), 99 + more - (act == 2 ? 3 : 0));
        }
    }

    private static void daysIfItCanBe() {
        // STOPPED twice is STOPPED, CLEARED twice is CLEARED: by many SEEDS one of these comes again.
        StoneReaders x = nests(1);
        for (int seed = 0; seed < 60; seed++) {
            Due.due("days(" + seed + ", 60, 2)", x.days(seed, 60, 2), drawnWater(seed, 60, 1)[0]);
        }
        StoneReaders y = nests(2);
        for (int seed = 0; seed < 60; seed++) {
            Due.due("days(" + seed + ", 60, 2) of two", y.days(seed, 60, 2), sum(drawnWater(seed, 60, 2)));
        }
    }

    private static void daysOnAFullSlate() {
        StoneReaders x = Due.told("mouth a plain high 1 takes 1 holds 9;mouth b plain high 1 takes 1 holds 9;letter l of a b;rain 1 0;sounds wet;");
        Due.due("days(5, 99, 0)", x.days(5, 99, 0), 50);
        Due.due("days(5, 99, 1)", x.days(5, 99, 1), 0);
        Due.minutes(x, 100);
        Due.due("count(6)", x.count(6), 40);
        Due.due("days(5, 99, 0) with a full slate", x.days(5, 99, 0), 50);
        StoneReaders y = Due.told("mouth a plain high 1 takes 1 holds 9;mouth b plain high 1 takes 1 holds 9;letter l of a;rain 1 0;sounds wet;");
        Due.due("days(5, 99, 1)", y.days(5, 99, 1), 50);
        Due.minutes(y, 100);
        Due.due("days(5, 99, 1) with a full slate", y.days(5, 99, 1), 50);
        Due.due("days(5, 99, 0): HOLES are no LETTERS", y.days(5, 99, 0), 0);
    }

    private static void daysAtLast() {
        StoneReaders x = nests(2);
        x.pour(0, 5);
        x.pour(1, 7);
        // By 1: nothing is POURED into, STOPPED or CLEARED in the first one.
        Due.due("days(1, 1, 2)", x.days(1, 1, 2), 12);
        Due.due("days(1, 1, 0)", x.days(1, 1, 0), 0);
        Due.due("days(1, 1, 1)", x.days(1, 1, 1), 0);
    }

    private static StoneReaders marked() {
        StoneReaders x = Due.told("mouth a plain high 2 takes 1 holds 9;mouth n nest high 1 takes 1 holds 9;letter l of a;letter m of a n;rain 4 1;");
        for (int i = 0; i < 4; i++) {
            x.mark(i, false);
            x.minute();
        }
        return x;
    }

    private static void marks0To3() {
        StoneReaders x = marked();
        Due.due("mark(-1, false)", x.mark(-1, false), false);
        Due.due("mark(4, false)", x.mark(4, false), false);
        Due.due("mark(-1, true)", x.mark(-1, true), false);
        Due.due("mark(4, true)", x.mark(4, true), false);
        Due.due("count(2)", x.count(2), 4);
        for (int i : new int[] {3, 0, 2, 1, 0}) {
            Due.due("mark(" + i + ", true)", x.mark(i, true), true);
            Due.due("count(2) of MARK " + i, x.count(2), i);
        }
        x.minute();
        x.mark(3, false);
        Due.minutes(x, 5);
        x.mark(3, true);
        Due.due("count(2) of a MARK laid anew", x.count(2), 1);
    }

    private static void marksHold() {
        StoneReaders x = marked();
        Due.day(x, "stop a;stop a;minute;");
        Due.word(x, "l l");
        x.see(0, true);
        x.stop(0);
        x.pour(1, 2);
        x.mark(2, false);
        int[] want = new int[13];
        for (int what = 0; what < 13; what++) {
            want[what] = x.count(what);
        }
        // Nothing can be undone behind it.
        want[11] = 0;
        int[] rows = {x.mouth(0, 5), x.mouth(1, 5), x.mouth(0, 7), x.mouth(1, 7), x.sounds(), x.last(), x.stands(), x.judged(0), x.rains()};
        Due.day(x, "minute;");
        Due.word(x, "m");
        x.see(1, false);
        x.see(0, false);
        x.clear(0);
        x.clear(1);
        Due.minutes(x, 7);
        Due.due("mark(2, true)", x.mark(2, true), true);
        for (int what = 0; what < 13; what++) {
            Due.due("count(" + what + ")", x.count(what), want[what]);
        }
        int[] back = {x.mouth(0, 5), x.mouth(1, 5), x.mouth(0, 7), x.mouth(1, 7), x.sounds(), x.last(), x.stands(), x.judged(0), x.rains()};
        for (int i = 0; i < rows.length; i++) {
            Due.due("row " + i, back[i], rows[i]);
        }
        for (int i = 0; i < 5; i++) {
            Due.due("slate(" + i + ")", x.slate(i), i < 4 ? 0 : -1);
        }
        // The first MARK was laid ahead of all of it.
        x.mark(0, true);
        int[] first = {2, 2, 0, 4, 0, 2, 0, 0, 0, 0, 0, 0, 0};
        for (int what = 0; what < 13; what++) {
            Due.due("count(" + what + ") of MARK 0", x.count(what), first[what]);
        }
        Due.due("last() of MARK 0", x.last(), -1);
        Due.due("sounds() of MARK 0", x.sounds(), 0);
        Due.due("mouth(0, 7) of MARK 0", x.mouth(0, 7), 0);
    }

    private static void marksHoldEachPart() {
        // What is on a MARK differs from what is told behind it in each place.
        StoneReaders x = Due.told("mouth a plain high 2 takes 0 holds 9;mouth b plain high 1 takes 0 holds 9;letter l of a;letter m of b;"
                + "sounds flow or (wet and tall=1);");
        x.mark(3, false);
        Due.day(x, "pour a 3;stop b;minute;minute;");
        Due.word(x, "l m l");
        x.see(0, false);
        x.see(1, true);
        x.mark(0, false);
        Due.day(x, "stop a;pour b 9;minute;minute;");
        Due.word(x, "m l m");
        x.see(1, false);
        x.mark(1, false);
        Due.due("judged(2)", x.judged(2), 0);
        Due.due("judged(1)", x.judged(1), 2);
        Due.due("rains() that can't be", x.rains(), 0);
        x.mark(0, true);
        Due.due("rains() of 1 and more", x.rains(), 1022);
        Due.due("count(10)", x.count(10), 2);
        for (int sign : new int[] {0, 1, 0}) {
            x.pour(sign, 1);
            x.minute();
        }
        Due.due("stands() of l m l", x.stands(), 0);
        Due.due("judged(0)", x.judged(0), -1);
        Due.due("judged(1)", x.judged(1), 2);
        x.mark(3, true);
        x.see(1, false);
        x.see(0, true);
        x.mark(0, true);
        Due.due("rains() of 1 and more, again", x.rains(), 1022);
        x.mark(3, true);
        x.see(0, true);
        x.see(1, false);
        x.mark(0, true);
        Due.due("rains() of 1 and more, once more", x.rains(), 1022);
        Due.day(x, "clear a;stop a;stop b;pour a 20;pour b 20;minute;minute;");
        x.mark(2, false);
        Due.day(x, "clear b;clear b;pour b 1;pour b 1;pour b 1;minute;minute;minute;");
        Due.due("judged(1) of b", x.judged(1), 5);
        x.mark(0, true);
        Due.due("judged(1) of 3 in a", x.judged(1), 2);
        x.mark(2, true);
        Due.due("judged(0) of MARK 2", x.judged(0), 0);
        Due.due("judged(1) of MARK 2", x.judged(1), -1);
    }

    private static void marksUndoNothing() {
        StoneReaders x = marked();
        Due.due("count(11) behind laying", x.count(11), 4);
        Due.due("mark(1, true)", x.mark(1, true), true);
        Due.due("count(11) behind going back", x.count(11), 0);
        Due.due("undo()", x.undo(), false);
        x.minute();
        Due.due("undo() of what came then", x.undo(), true);
        Due.due("undo() of no more", x.undo(), false);
        Due.due("count(2)", x.count(2), 1);
        // What is refused leaves what can be undone.
        x.minute();
        Due.due("mark(4, true)", x.mark(4, true), false);
        Due.due("count(11) behind a refusal", x.count(11), 1);
    }
}
