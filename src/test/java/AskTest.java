/** Promises 34 to 41: what to pour and to stop, unknown and odd rain, a plumber at rest, days by draws. */
public final class AskTest {
    private static final String TWO = "mouth a plain high 2 takes 0 holds 40;mouth b plain high 1 takes 0 holds 40;"
            + "letter p of a;letter q of b;";

    public static void main(String[] args) {
        aims();
        hushes();
        sees();
        looks();
        chances();
        rests();
        days();
        nothingIsChanged();
        Due.end();
    }

    private static void aim(StoneReaders x, int letter, int water, int mouth) {
        Due.due("aim(" + letter + ", 0)", x.aim(letter, 0), water);
        Due.due("aim(" + letter + ", 1)", x.aim(letter, 1), mouth);
    }

    private static void aims() {
        StoneReaders x = Due.told(TWO + "letter r of a b;");
        aim(x, 0, 1, 0);
        aim(x, 1, 1, 1);
        aim(x, 2, -2, -2);
        Due.due("aim(0, 2)", x.aim(0, 2), -2);
        Due.due("aim(0, -1)", x.aim(0, -1), -2);
        Due.due("aim(3, 0)", x.aim(3, 0), -2);
        Due.due("aim(-1, 0)", x.aim(-1, 0), -2);
        x.pour(0, 1);
        aim(x, 0, 0, -1);
        aim(x, 1, -2, -2);
        aim(x, 2, 1, 1);
        // From hi or from lo itself: the first MOUTH of equal water, told first or not.
        StoneReaders y = Due.told("mouth hi nest high 2 takes 0 holds 0;mouth lo plain high 1 takes 0 holds 40;"
                + "gutter hi lo;letter l of lo;letter m of hi;letter n of hi lo;sounds 19<stands+flow;");
        aim(y, 0, 20, 0);
        aim(y, 1, -2, -2);
        y.pour(1, 1);
        aim(y, 0, 19, 0);
        y.stop(1);
        y.pour(1, 20);
        aim(y, 0, 0, -1);
        StoneReaders z = Due.told("mouth lo plain high 1 takes 0 holds 40;mouth hi nest high 2 takes 0 holds 5;"
                + "gutter hi lo;letter l of lo;letter m of hi;sounds 3<stands+flow and stands+flow<6;");
        aim(z, 0, 4, 0);
        aim(z, 1, 4, 1);
        // Out of range of 20.
        StoneReaders far = Due.told("mouth a plain high 1 takes 0 holds 40;letter l of a;sounds 20<stands+flow;");
        aim(far, 0, -2, -2);
        far.pour(0, 1);
        aim(far, 0, 20, 0);
        // No more than 99 comes to stand.
        StoneReaders full = Due.told("mouth a nest high 2 takes 0 holds 0;mouth b nest high 1 takes 0 holds 40;"
                + "mouth c nest high 1 takes 1 holds 40;gutter a b;letter l of b;letter m of a b;sounds stands=40;rain 0;");
        for (int i = 0; i < 5; i++) {
            full.pour(0, 20);
        }
        Due.due("mouth(0, 5)", full.mouth(0, 5), 99);
        aim(full, 0, 0, -1);
        aim(full, 1, -2, -2);
    }

    private static void hushes() {
        StoneReaders x = Due.told("mouth a plain high 3 takes 1 holds 9;mouth b plain high 2 takes 1 holds 9;"
                + "mouth c nest high 1 takes 1 holds 9;letter p of a b;letter q of a b c;letter r of c;"
                + "letter s of a;letter t of b c;rain 1;");
        Due.due("hush(0)", x.hush(0), 0);
        Due.due("hush(1)", x.hush(1), 4);
        Due.due("hush(2)", x.hush(2), 7);
        Due.due("hush(3)", x.hush(3), 2);
        Due.due("hush(4)", x.hush(4), 5);
        Due.due("hush(5)", x.hush(5), -1);
        Due.due("hush(-1)", x.hush(-1), -1);
        x.stop(0);
        Due.due("hush(0), STOPPED", x.hush(0), 1);
        Due.due("hush(4), STOPPED", x.hush(4), 4);
        // c alone is read if a or b is stopped: the least set of one.
        StoneReaders y = Due.told("mouth a plain high 3 takes 1 holds 1;mouth b plain high 2 takes 1 holds 1;"
                + "mouth c plain high 1 takes 0 holds 9;gutter a c;gutter b c;letter l of c;letter m of b;"
                + "sounds tall=1 and flow=0 and stands=0 or tall=2 and flow=0;rain 1;");
        Due.due("hush(0) of what is", y.hush(0), 0);
        Due.due("hush(1), none", y.hush(1), -1);
        StoneReaders z = Due.told("mouth a wide high 3 takes 4 holds 4;mouth b wide high 2 takes 4 holds 4;"
                + "mouth c wide high 1 takes 4 holds 4;letter l of a b c;letter m of a b;sounds flow+stands=4 and wet=1;rain 1;");
        Due.due("hush(0)", z.hush(0), 0);
        Due.due("hush(1)", z.hush(1), -1);
        // More than two may be needed, fewer with a greater number win over more with a lesser one.
        StoneReaders w = Due.told("mouth a plain high 4 takes 1 holds 0;mouth b plain high 4 takes 1 holds 0;"
                + "mouth c plain high 3 takes 1 holds 9;mouth d plain high 3 takes 1 holds 9;"
                + "letter l of c;letter m of d;letter n of c d;rain 1;");
        Due.due("hush(0) without d", w.hush(0), 8);
        Due.due("hush(1) without c", w.hush(1), 4);
        Due.due("hush(2)", w.hush(2), 0);
        StringBuilder nests = new StringBuilder("letter l of");
        for (char m = 'g'; m >= 'a'; m--) {
            nests.insert(0, "mouth " + m + " nest high 1 takes 1 holds 1;");
            nests.append(' ').append(m);
        }
        Due.due("hush(0) of all seven", Due.told(nests + ";rain 1;").hush(0), 127);
        StoneReaders none = Due.told("mouth a plain high 1 takes 0 holds 9;letter l of a;");
        Due.due("hush(0) of the dry", none.hush(0), -1);
    }

    private static void sees() {
        StoneReaders x = Due.told("mouth a plain high 2 takes 1 holds 40;mouth b plain high 1 takes 2 holds 40;"
                + "sounds 3<stands+flow;rain 9;");
        // a sounds by a rain of 4 and more, b by one of 2 and more.
        Due.due("rains()", x.rains(), 1023);
        Due.due("see(2, true)", x.see(2, true), false);
        Due.due("see(-1, true)", x.see(-1, true), false);
        Due.due("see(0, false)", x.see(0, false), true);
        Due.due("rains()", x.rains(), 15);
        Due.due("see(1, true)", x.see(1, true), true);
        Due.due("rains()", x.rains(), 12);
        Due.due("count(10)", x.count(10), 2);
        for (int i = 2; i < 8; i++) {
            Due.due("see(1, true)", x.see(1, true), true);
        }
        Due.due("see() of a ninth", x.see(0, true), false);
        Due.due("count(10)", x.count(10), 8);
        Due.due("rains()", x.rains(), 12);
        // All is as it is when it is asked.
        x.pour(0, 2);
        Due.due("rains() behind a POUR", x.rains(), 0);
        x.undo();
        x.pour(1, 2);
        Due.due("rains() behind another", x.rains(), 14);
        Due.due("minute() takes the rain that is told", x.minute(), 6);
        Due.due("what is SEEN stays", x.count(10), 8);
        StoneReaders y = Due.told("mouth a plain high 2 takes 1 holds 40;sounds wet=3 or wet=7;");
        y.see(0, true);
        Due.due("rains() by wet", y.rains(), 8 + 128);
        y.see(0, false);
        Due.due("rains() of what can't be", y.rains(), 0);
    }

    private static void looks() {
        StoneReaders x = Due.told("mouth a plain high 3 takes 1 holds 40;mouth b plain high 2 takes 2 holds 40;"
                + "mouth c plain high 1 takes 0 holds 40;sounds 3<stands+flow;");
        // a: 6 of 10 (4 .. 9), b: 8 of 10 (2 .. 9), c: none.
        Due.due("look()", x.look(), 0);
        x.see(0, false);
        // 0 .. 3 are left: b parts them by two and two.
        Due.due("look()", x.look(), 1);
        x.see(1, true);
        // 2 and 3 are left, by which all is the same.
        Due.due("look() of what none parts", x.look(), -1);
        x.see(2, true);
        Due.due("look() of none", x.look(), -1);
        StoneReaders y = Due.told("mouth a plain high 3 takes 0 holds 40;mouth b plain high 2 takes 1 holds 40;"
                + "mouth c plain high 2 takes 1 holds 40;sounds tall<3 and flow<3;");
        // b and c sound by 0 .. 2 alike.
        Due.due("look() of equal ones", y.look(), 1);
        // By 4 of 10 and by 6 of 10 the greater number is the same.
        StoneReaders z = Due.told("mouth a plain high 3 takes 1 holds 40;mouth b plain high 2 takes 1 holds 40;"
                + "sounds (tall=3 and wet<6) or (tall=2 and wet<4);");
        Due.due("look() of an equal greater number", z.look(), 0);
        StoneReaders one = Due.told("mouth a plain high 2 takes 1 holds 40;mouth b plain high 2 takes 0 holds 40;");
        Due.due("look() of one against nine", one.look(), 0);
        Due.due("look() without MOUTHS", new StoneReaders().look(), -1);
        // 6 and 4 by the first, 5 and 5 by the second, of just ten rains.
        StoneReaders ten = Due.told("mouth a plain high 3 takes 1 holds 40;mouth b plain high 2 takes 1 holds 40;"
                + "sounds (tall=3 and wet<6) or (tall=2 and wet<5);");
        Due.due("look() of ten rains", ten.look(), 1);
        sevenMouths();
    }

    private static void sevenMouths() {
        StringBuilder seven = new StringBuilder();
        for (char m = 'a'; m <= 'g'; m++) {
            seven.append("mouth ").append(m).append(" plain high 1 takes ").append(m == 'g' ? 1 : 0).append(" holds 9;");
        }
        StoneReaders x = Due.told(seven + "letter l of g;letter m of a b;rain 0;");
        aim(x, 0, 1, 6);
        aim(x, 1, -2, -2);
        Due.due("look() at the seventh", x.look(), 6);
        Due.due("first() of seven", x.first(), -1);
        x.pour(6, 5);
        Due.due("great(1) of seven", x.great(1), 6);
        Due.due("great(60) of seven", x.great(60), 6);
        Due.due("first() of seven", x.first(), -1);
        Due.due("hush(0) of seven", x.hush(0), 0);
        Due.due("days(1, 1, 2) of seven", x.days(1, 1, 2) >= 2, true);
    }

    private static void chances() {
        StoneReaders x = Due.told("mouth a plain high 1 takes 1 holds 40;letter l of a;rain 9;");
        Due.due("chance(0, 1, 3)", x.chance(0, 1, 3), 300000);
        Due.due("chance(0, 2, 3)", x.chance(0, 2, 3), 510000);
        Due.due("chance(0, 3, 3)", x.chance(0, 3, 3), 657000);
        Due.due("chance(0, 6, 10)", x.chance(0, 6, 10), 1000000);
        Due.due("chance(0, 6, 0)", x.chance(0, 6, 0), 0);
        Due.due("chance(1, 1, 5)", x.chance(1, 1, 5), -1);
        Due.due("chance(-1, 1, 5)", x.chance(-1, 1, 5), -1);
        Due.due("chance(0, 0, 5)", x.chance(0, 0, 5), -1);
        Due.due("chance(0, 7, 5)", x.chance(0, 7, 5), -1);
        Due.due("chance(0, 1, -1)", x.chance(0, 1, -1), -1);
        Due.due("chance(0, 1, 11)", x.chance(0, 1, 11), -1);
        // Read if it rains in the last one, and in no other way.
        StoneReaders y = Due.told("mouth a wide high 1 takes 1 holds 6;letter l of a;sounds wet=9;");
        Due.due("chance(0, 6, 7)", y.chance(0, 6, 7), 700000);
        // Two behind each other, wet and then dry.
        StoneReaders z = Due.told("mouth a slow high 1 takes 1 holds 1;mouth b nest high 2 takes 1 holds 40;"
                + "letter l of b;sounds tall=2 and stands=9 and wet=0;");
        Due.due("chance(0, 2, 2)", z.chance(0, 2, 2), 160000);
        Due.due("chance(0, 3, 2)", z.chance(0, 3, 2), 2 * 2 * 8 * 8 * 1000);
        // One of six is wet, and it isn't the last: 5 * 1 * 9^5 millionths.
        Due.due("chance(0, 6, 1)", z.chance(0, 6, 1), 5 * 59049);
        z.pour(1, 9);
        Due.due("chance(0, 6, 1) of none wet", z.chance(0, 6, 1), 531441);
        Due.due("chance(0, 6, 9) of none wet", z.chance(0, 6, 9), 1);
        // Told rain counts for nothing here; the rain of the odd minutes does.
        StoneReaders w = Due.told("mouth a nest high 1 takes 1 holds 40;letter l of a;sounds stands=36;rain 1;");
        Due.due("chance(0, 4, 3)", w.chance(0, 4, 3), 8100);
        Due.due("chance(0, 5, 3)", w.chance(0, 5, 3), 5 * 81 * 7 * 10);
    }

    private static void rest(int lose, int pulls, int holds, int... want) {
        StoneReaders x = new StoneReaders();
        String call = "rests(" + lose + ", " + pulls + ", " + holds + ", ";
        Due.due(call + "NONE)", x.rests(lose, pulls, holds, StoneReaders.NONE), want.length);
        for (int i = 0; i < want.length; i++) {
            Due.due(call + i + ")", x.rests(lose, pulls, holds, i), want[i]);
        }
        Due.restsThrow(x, lose, pulls, holds, want.length);
    }

    private static void rests() {
        rest(0, 0, 0, 0, 1, 2, 3);
        rest(1, 0, 0, 0, 1, 2);
        rest(2, 5, 1, 1, 2);
        rest(0, 9, 0, 1, 2, 3);
        rest(0, 9, 1, 1, 2);
        rest(9, 9, 9, 1, 2);
        rest(0, 0, 9, 0, 1, 2);
        rest(9, 0, 0, 0, 1, 2);
        StoneReaders x = new StoneReaders();
        Due.restsThrow(x, 10, 1, 1, -1);
        Due.restsThrow(x, 1, 10, 1, -1);
        Due.restsThrow(x, 1, 1, 10, -1);
        Due.restsThrow(x, -1, 1, 1, -1);
        Due.restsThrow(x, 1, -1, 1, -1);
        Due.restsThrow(x, 1, 1, -1, -1);
        Due.restsThrow(x, 1, 1, 1, -2);
        Due.restsThrow(x, 1, 1, 1, Integer.MIN_VALUE);
        Due.restsThrow(x, 1, 1, 1, Integer.MAX_VALUE);
    }

    private static void days() {
        StoneReaders x = Due.told(TWO);
        // By 1: nothing; 2 into b; 4 into b; a is stopped; each with its MINUTE.
        int[] letters = {0, 1, 2, 3};
        int[] stands = {0, 0, 1, 0};
        for (int i = 1; i <= 4; i++) {
            Due.due("days(1, " + i + ", 0)", x.days(1, i, 0), letters[i - 1]);
            Due.due("days(1, " + i + ", 1)", x.days(1, i, 1), 0);
            Due.due("days(1, " + i + ", 2)", x.days(1, i, 2), stands[i - 1]);
        }
        StoneReaders holes = Due.told("mouth a plain high 2 takes 0 holds 40;mouth b plain high 1 takes 0 holds 40;letter p of a;");
        Due.due("days(1, 4, 0)", holes.days(1, 4, 0), 0);
        Due.due("days(1, 4, 1)", holes.days(1, 4, 1), 3);
        // By 17: b is cleared; again; 9 into a, which runs over by 4.
        StoneReaders y = Due.told("mouth a plain high 2 takes 0 holds 5;mouth b nest high 1 takes 0 holds 40;"
                + "gutter a b;letter p of a;letter q of b;letter r of a b;");
        y.pour(1, 4);
        Due.due("days(17, 1, 0)", y.days(17, 1, 0), 1);
        Due.due("days(17, 1, 2)", y.days(17, 1, 2), 1);
        Due.due("days(17, 3, 0)", y.days(17, 3, 0), 3);
        Due.due("days(17, 3, 2)", y.days(17, 3, 2), 2 + 1);
        // By 0 b is stopped in the fourth, behind which it spouts nothing.
        StoneReaders z = Due.told("mouth a plain high 2 takes 0 holds 40;mouth b slow high 1 takes 0 holds 40;letter q of b;");
        z.pour(1, 9);
        Due.due("days(0, 4, 0)", z.days(0, 4, 0), 3);
        Due.due("days(0, 4, 2)", z.days(0, 4, 2), 6);
        // The slate's room does not matter.
        StoneReaders full = Due.told("rain 1;mouth a slow high 1 takes 1 holds 1;mouth b slow high 1 takes 1 holds 1;sounds 1;letter l of a b;");
        Due.minutes(full, 40);
        Due.due("days(3, 99, 0) with a full slate", full.days(3, 99, 0), 99);
        // A single MOUTH is drawn too: by 1 the second number drawn below 5 is 3, then 0 (2), 0 (4), 1.
        StoneReaders one = Due.told("mouth a plain high 1 takes 0 holds 40;letter l of a;");
        Due.due("days(1, 1, 0) of one", one.days(1, 1, 0), 0);
        Due.due("days(1, 3, 0) of one", one.days(1, 3, 0), 2);
        Due.due("days(1, 3, 2) of one", one.days(1, 3, 2), 1);
        Due.due("days(1, 4, 0) of one, STOPPED", one.days(1, 4, 0), 2);
        Due.due("days(1, 4, 2) of one, STOPPED", one.days(1, 4, 2), 1);
        Due.due("days(-1, 1, 0)", x.days(-1, 1, 0), -1);
        Due.due("days(10000, 1, 0)", x.days(10000, 1, 0), -1);
        Due.due("days(9999, 1, 0)", x.days(9999, 1, 0), 0);
        Due.due("days(1, 0, 0)", x.days(1, 0, 0), -1);
        Due.due("days(1, 100, 0)", x.days(1, 100, 0), -1);
        Due.due("days(1, 1, 3)", x.days(1, 1, 3), -1);
        Due.due("days(1, 1, -1)", x.days(1, 1, -1), -1);
        Due.due("days(1, 99, 2) without MOUTHS", new StoneReaders().days(1, 99, 2), 0);
    }

    private static void nothingIsChanged() {
        StoneReaders x = Due.told(TWO + "rain 1 2;");
        x.pour(0, 5);
        x.minute();
        x.aim(1, 0);
        x.hush(1);
        x.rains();
        x.look();
        x.chance(0, 6, 5);
        x.days(5, 99, 0);
        int[] want = {2, 2, 1, 2, 2, 0, 1, 0, 0, 0, 0, 2, 0};
        for (int what = 0; what <= 12; what++) {
            Due.due("behind asking: count(" + what + ")", x.count(what), want[what]);
        }
        Due.due("behind asking: mouth(0, 7)", x.mouth(0, 7), 3);
        Due.due("behind asking: sounds()", x.sounds(), 1);
        Due.due("behind asking: last()", x.last(), 0);
        Due.due("behind asking: slate(0)", x.slate(0), 0);
    }
}
