/** Promises 14 to 26: a DAY judged, what will be, and what the gutters join. */
public final class AheadTest {
    private static final String THREE = "mouth lo plain high 1 takes 1 holds 4;"
            + "mouth hi wide high 5 takes 2 holds 6;mouth md slow high 3 takes 0 holds 2;"
            + "gutter hi md;gutter md lo;"
            + "letter all of lo hi md;letter two of hi lo;letter one of lo;rain 4 0 1;";

    public static void main(String[] args) {
        judges();
        judgesFromTheBeginning();
        laterAndReads();
        whenAndDry();
        spillsAndOvers();
        firstGreatTwins();
        ways();
        nothingIsChanged();
        Due.end();
    }

    private static void judges() {
        StoneReaders x = Due.told(THREE);
        Due.due("judged(0) without a DAY", x.judged(0), -1);
        Due.due("judged(1) without a DAY", x.judged(1), -1);
        Due.due("judged(2) without a DAY", x.judged(2), 0);
        Due.due("judged(3)", x.judged(3), -2);
        Due.due("judged(-1)", x.judged(-1), -2);
        // Line 1 makes a HOLE of the first MINUTE (hi and md), line 4 can't be, line 7 reads two.
        Due.day(x, "pour md 2;stop lo;minute;clear lo;clear lo;stop hi;minute;clear hi;minute;stop hi;stop hi;");
        // minute 0: lo 4 stopped, hi 6, md 2 + 2 runs over 2 into lo, which runs over.
        // minute 1: hi 0 stopped, md 1, lo 4 -> 3: lo and md: a HOLE. minute 2: lo and hi: two.
        Due.due("judged(0)", x.judged(0), 4);
        Due.due("judged(1)", x.judged(1), 8);
        Due.due("judged(2)", x.judged(2), 2);
        Due.day(x, "minute;minute;");
        Due.due("judged(0), all can be", x.judged(0), -1);
        Due.due("judged(1), at once", x.judged(1), 0);
        Due.due("judged(2)", x.judged(2), 1);
        Due.day(x, "stop lo;stop hi;stop md;minute;");
        Due.due("judged(1), none", x.judged(1), -1);
        Due.due("judged(2), none", x.judged(2), 0);
        StoneReaders dry = Due.told("mouth a plain high 1 takes 0 holds 9;mouth b plain high 1 takes 0 holds 9;letter l of b;");
        Due.day(dry, "minute;pour b 4;minute;minute;pour a 1;minute;");
        Due.due("judged(0) of POURS", dry.judged(0), -1);
        Due.due("judged(1) of POURS", dry.judged(1), 2);
        Due.due("judged(2) of POURS", dry.judged(2), 1);
    }

    private static void judgesFromTheBeginning() {
        StoneReaders x = Due.told("mouth n nest high 2 takes 1 holds 9;letter l of n;rain 1 0;");
        Due.day(x, "stop n;clear n;minute;minute;stop n;");
        x.clear(0);
        Due.minutes(x, 1);
        Due.due("judged(0)", x.judged(0), 0);
        Due.due("judged(1)", x.judged(1), 2);
        Due.due("count(5)", x.count(5), 0);
        Due.due("count(2)", x.count(2), 1);
    }

    private static void laterAndReads() {
        StoneReaders x = Due.told(THREE);
        x.pour(0, 9);
        Due.due("later(0, 0)", x.later(0, 0), 9);
        Due.due("later(0, 1)", x.later(0, 1), 1);
        Due.due("later(2, 1)", x.later(2, 1), 1);
        Due.due("later(2, 2)", x.later(2, 2), 0);
        Due.due("later(0, 60)", x.later(0, 60), 0);
        Due.due("later(0, 58)", x.later(0, 58), 1);
        Due.due("later(0, 61)", x.later(0, 61), -1);
        Due.due("later(0, -1)", x.later(0, -1), -1);
        Due.due("later(3, 1)", x.later(3, 1), -1);
        Due.due("later(-1, 1)", x.later(-1, 1), -1);
        Due.due("reads(1)", x.reads(1), 0);
        Due.due("reads(2)", x.reads(2), 6);
        Due.due("reads(3)", x.reads(3), 1);
        Due.due("reads(60)", x.reads(60), 1);
        Due.due("reads(0)", x.reads(0), -2);
        Due.due("reads(61)", x.reads(61), -2);
        Due.due("reads(-1)", x.reads(-1), -2);
        // The slate is full behind 40, which changes nothing here.
        Due.minutes(x, 45);
        Due.due("count(6)", x.count(6), 40);
        Due.due("reads(1) with a full slate", x.reads(1), 0);
        Due.due("reads(59) with a full slate", x.reads(59), 6);
        StoneReaders dry = Due.told("mouth a plain high 1 takes 1 holds 1;rain 0 1;");
        Due.due("reads(1) of nothing", dry.reads(1), -1);
        Due.due("reads(2) of a HOLE", dry.reads(2), 6);
    }

    private static void whenAndDry() {
        StoneReaders x = Due.told(THREE);
        Due.due("when(0)", x.when(0), 1);
        Due.due("when(1)", x.when(1), 3);
        Due.due("when(2)", x.when(2), -1);
        Due.due("when(3)", x.when(3), -1);
        Due.due("when(-1)", x.when(-1), -1);
        Due.due("when(6): HOLES are no LETTERS", x.when(6), -1);
        Due.due("dry() at first", x.dry(), 0);
        x.minute();
        Due.due("dry()", x.dry(), 1);
        x.pour(1, 20);
        // 14 run over, of which 2 stay in md, which spouts one a MINUTE: 6 in hi, 2 in md, 4 in lo.
        Due.due("dry() behind a POUR", x.dry(), 2);
        StoneReaders slow = Due.told("mouth a slow high 1 takes 0 holds 40;mouth b slow high 1 takes 0 holds 40;"
                + "mouth c nest high 1 takes 1 holds 1;letter l of a;letter m of b;letter n of a b;");
        slow.pour(0, 20);
        slow.pour(0, 20);
        Due.due("dry() of 40", slow.dry(), 40);
        slow.pour(1, 1);
        Due.due("when(2), at once", slow.when(2), 1);
        Due.due("when(0), then", slow.when(0), 2);
        slow.pour(2, 1);
        Due.due("dry() never", slow.dry(), -1);
        StoneReaders long60 = Due.told("mouth a slow high 1 takes 1 holds 40;rain 1 0;");
        // One less behind each two MINUTES.
        long60.pour(0, 20);
        long60.pour(0, 10);
        Due.due("dry() of 60", long60.dry(), 60);
        long60.pour(0, 1);
        Due.due("dry() not by 60", long60.dry(), -1);
        StoneReaders last = Due.told("mouth a nest high 2 takes 1 holds 40;mouth b slow high 1 takes 1 holds 40;"
                + "gutter a b;letter l of b;letter m of a;sounds 59<stands+wet+tall*tall*0+flow*0;rain 1 1 1 1 1 1 1 1;");
        // Nobody can have 60 in it.
        Due.due("when(1)", last.when(1), -1);
        StoneReaders sixty = Due.told("mouth a slow high 1 takes 1 holds 40;mouth b nest high 1 takes 1 holds 40;"
                + "letter l of a;letter m of b;sounds stands=40 and tall;rain 1 0 1;");
        // b gets 2 in three MINUTES.
        Due.due("when(1) in the 60th", sixty.when(1), 60);
        StoneReaders more = Due.told("mouth a nest high 1 takes 1 holds 40;letter l of a;sounds stands=21;rain 0 1 0;");
        // The 21st comes in the 62nd.
        Due.minutes(more, 1);
        Due.due("when(0) not by 60", more.when(0), -1);
        Due.minutes(more, 1);
        Due.due("when(0) by 60", more.when(0), 60);
    }

    private static void spillsAndOvers() {
        StoneReaders x = Due.told("mouth a nest high 3 takes 1 holds 4;mouth b nest high 2 takes 0 holds 3;"
                + "mouth c nest high 1 takes 0 holds 2;gutter a b;rain 3 1;");
        // a has 3, 4, then 7: 3 into b; 8: 1 into b and so onto the path; and so on.
        int[] spilled = {0, 0, 0, 1, 4, 5, 8, 9};
        for (int i = 1; i <= spilled.length; i++) {
            Due.due("spill(" + i + ")", x.spill(i), spilled[i - 1]);
        }
        Due.due("spill(60)", x.spill(60), 60 / 2 * 4 - 7);
        Due.due("spill(0)", x.spill(0), -1);
        Due.due("spill(61)", x.spill(61), -1);
        Due.due("over(0)", x.over(0), 3);
        Due.due("over(1)", x.over(1), 4);
        Due.due("over(2)", x.over(2), -1);
        Due.due("over(3)", x.over(3), -1);
        Due.due("over(-1)", x.over(-1), -1);
        Due.minutes(x, 2);
        Due.due("over(0) now", x.over(0), 1);
        StoneReaders at = Due.told("mouth a nest high 3 takes 9 holds 1;mouth b nest high 2 takes 0 holds 2;"
                + "mouth c nest high 1 takes 1 holds 0;gutter a b;rain 1 0 0 1;");
        Due.due("over(0) at once", at.over(0), 1);
        Due.due("over(1) at once", at.over(1), 1);
        Due.due("over(2) at once", at.over(2), 1);
        Due.due("spill(1)", at.spill(1), 6 + 1);
        Due.minutes(at, 1);
        Due.due("over(0) again", at.over(0), 3);
        Due.due("over(1) again", at.over(1), 3);
        Due.due("first() again", at.first(), 0);
        Due.due("spill(2) of nothing", at.spill(2), 0);
        Due.due("spill(3)", at.spill(3), 9 + 1);
        StoneReaders late = Due.told("mouth a nest high 1 takes 1 holds 40;rain 2 0 0;");
        // 40 behind 58, 42 in the 61st.
        Due.due("over(0) not by 60", late.over(0), -1);
        Due.due("first() not by 60", late.first(), -1);
        Due.minutes(late, 1);
        Due.due("over(0) in the 60th", late.over(0), 60);
        Due.due("first() in the 60th", late.first(), 0);
    }

    private static void firstGreatTwins() {
        StoneReaders x = Due.told(THREE);
        Due.due("first()", x.first(), 1);
        Due.due("great(1)", x.great(1), 1);
        Due.due("great(3)", x.great(3), 1);
        Due.due("great(60)", x.great(60), 1);
        Due.due("great(0)", x.great(0), -1);
        Due.due("great(61)", x.great(61), -1);
        Due.due("twins(1)", x.twins(1), 0);
        Due.due("twins(0)", x.twins(0), -1);
        Due.due("twins(61)", x.twins(61), -1);
        x.minute();
        Due.due("great(1) of equal ones", x.great(1), 0);
        Due.due("twins(1): lo and md", x.twins(1), 1);
        Due.due("twins(2)", x.twins(2), 0);
        // The lower one is told first and runs over in the same MINUTE.
        StoneReaders y = Due.told("mouth a nest high 1 takes 1 holds 0;mouth b nest high 9 takes 1 holds 0;"
                + "mouth c plain high 9 takes 0 holds 9;rain 0 1;");
        Due.due("first() of equal ones", y.first(), 0);
        Due.due("great(5) of nothing", y.great(5), 0);
        Due.due("twins(60)", y.twins(60), 3);
        y.pour(2, 4);
        Due.due("great(5)", y.great(5), 2);
        Due.due("twins(60) of two", y.twins(60), 1);
        StoneReaders z = Due.told("mouth a slow high 1 takes 0 holds 9;mouth b plain high 1 takes 0 holds 9;"
                + "mouth c wide high 1 takes 0 holds 9;");
        z.pour(0, 4);
        z.pour(1, 4);
        z.pour(2, 4);
        // a 1 1 1 1, b 3 1, c 4: as much together, but not in each.
        Due.due("great(1)", z.great(1), 2);
        Due.due("great(4) of equal sums", z.great(4), 0);
        Due.due("twins(1)", z.twins(1), 0);
        Due.due("twins(4)", z.twins(4), 0);
        z.minute();
        Due.due("twins(1) of a and b", z.twins(1), 1);
        // By 1 2 2 1 2 1 0 that they spout there are 3 pairs of 1, 3 of 2.
        StringBuilder seven = new StringBuilder();
        for (int i = 0; i < 7; i++) {
            seven.append("mouth ").append((char) ('a' + i)).append(" wide high 1 takes 0 holds 9;");
        }
        StoneReaders w = Due.told(seven.toString());
        Due.due("twins(1) of seven alike", w.twins(1), 21);
        int[] water = {1, 2, 2, 1, 2, 1};
        for (int i = 0; i < 6; i++) {
            w.pour(i, water[i]);
        }
        Due.due("twins(1) of seven", w.twins(1), 6);
        Due.due("twins(60) of seven", w.twins(60), 6);
        w.pour(6, 1);
        Due.due("twins(1) of four and three", w.twins(1), 9);
        w.pour(0, 3);
        Due.due("twins(1) without the first", w.twins(1), 6);
        Due.due("great(1) of one MOUTH", Due.told("mouth a plain high 1 takes 0 holds 1;").great(1), 0);
    }

    private static void ways() {
        StoneReaders x = Due.told(THREE);
        Due.due("down(0)", x.down(0), 0);
        Due.due("down(1)", x.down(1), 5);
        Due.due("down(2)", x.down(2), 1);
        Due.due("down(3)", x.down(3), -1);
        Due.due("down(-1)", x.down(-1), -1);
        Due.due("up(0)", x.up(0), 6);
        Due.due("up(1)", x.up(1), 0);
        Due.due("up(2)", x.up(2), 2);
        Due.due("up(3)", x.up(3), -1);
        Due.due("up(-1)", x.up(-1), -1);
        Due.due("chain()", x.chain(), 3);
        StringBuilder seven = new StringBuilder();
        for (int i = 0; i < 7; i++) {
            seven.append("mouth ").append((char) ('a' + i)).append(" plain high ").append(i + 1).append(" takes 1 holds 1;");
        }
        Due.due("chain() without gutters", Due.told(seven.toString()).chain(), 1);
        for (int i = 1; i < 7; i++) {
            seven.append("gutter ").append((char) ('a' + i)).append(' ').append((char) ('a' + i - 1)).append(';');
        }
        StoneReaders y = Due.told(seven.toString());
        Due.due("chain() of seven", y.chain(), 7);
        Due.due("down(6)", y.down(6), 63);
        Due.due("up(0)", y.up(0), 126);
        StoneReaders two = Due.told("mouth a plain high 2 takes 0 holds 1;mouth b plain high 1 takes 0 holds 1;gutter a b;");
        Due.due("up(1) of two", two.up(1), 1);
        Due.due("down(0) of two", two.down(0), 2);
        Due.due("chain() of two", two.chain(), 2);
        Due.due("chain() of none", Due.told("").chain(), 0);
    }

    private static void nothingIsChanged() {
        StoneReaders x = Due.told(THREE);
        x.minute();
        x.later(0, 60);
        x.reads(60);
        x.when(2);
        x.dry();
        x.spill(60);
        x.over(2);
        x.first();
        x.great(60);
        x.twins(60);
        int[] want = {3, 3, 1, 0, 2, 0, 1, 0, 0, 0, 0, 1, 0};
        for (int what = 0; what <= 12; what++) {
            Due.due("behind looking ahead: count(" + what + ")", x.count(what), want[what]);
        }
        Due.due("behind looking ahead: minute()", x.minute(), 6);
    }
}
