/** Promises 29 to 33: what stands on the slate, and where a WORD does. */
public final class SlateTest {
    /** By hand: p by water in a, q by water in b, r by both, a HOLE by water in c. */
    private static final String BY_HAND = "mouth a plain high 1 takes 0 holds 40;mouth b plain high 1 takes 0 holds 40;"
            + "mouth c plain high 1 takes 0 holds 40;letter p of a;letter q of b;letter r of a b;";

    public static void main(String[] args) {
        oftenAndRun();
        standsAndMaybe();
        entire();
        entireOnAFullSlate();
        Due.end();
    }

    private static void write(StoneReaders x, String signs) {
        for (char sign : signs.toCharArray()) {
            if (sign == 'p' || sign == 'r') {
                x.pour(0, 1);
            }
            if (sign == 'q' || sign == 'r') {
                x.pour(1, 1);
            }
            if (sign == '?') {
                x.pour(2, 1);
            }
            Due.due("minute() for " + sign, x.minute(), sign == '?' ? 6 : "pqr".indexOf(sign));
        }
    }

    private static StoneReaders written(String signs) {
        StoneReaders x = Due.told(BY_HAND);
        write(x, signs);
        return x;
    }

    private static void oftenAndRun() {
        Object[][] all = {
            {"", -1, 0}, {"?", -1, 0}, {"???", -1, 0}, {"q", 1, 1}, {"qp", 0, 1}, {"qqp", 1, 2},
            {"rqrq", 1, 1}, {"r.r.r", 2, 3}, {"p?p?pqqqq", 1, 4}, {"ppp????q", 0, 3}, {"p??????q", 0, 1},
            {"qqpqqq", 1, 3}, {"qqqpqq", 1, 3}, {"pprrqq", 0, 2}};
        for (Object[] one : all) {
            StoneReaders x = written((String) one[0]);
            Due.due("often() of " + one[0], x.often(), (Integer) one[1]);
            Due.due("run() of " + one[0], x.run(), (Integer) one[2]);
        }
        Due.due("often() without a FRONT", new StoneReaders().often(), -1);
    }

    private static void standsAndMaybe() {
        Object[][] all = {
            {"", "p", -1, 0}, {"p", "p", 0, 1}, {"p", "p p", -1, 0}, {"qp", "p", 1, 1}, {"qppp", "p p", 1, 2},
            {"q?q", "q p q", -1, 1}, {"q?q", "q q q", -1, 1}, {"???", "p q", -1, 2}, {"???", "p q r", -1, 1},
            {"pqrpqr", "r p", 2, 1}, {"p.q", "p q", 0, 1}, {"pq?", "q r", -1, 1}, {"?pq", "p q", 1, 1},
            {"ppq", "p q", 1, 1}, {"p?pq", "p q", 2, 2}, {"pqpqpqpq", "p q p q p q p", 0, 1}};
        for (Object[] one : all) {
            StoneReaders x = written((String) one[0]);
            Due.due("stands() without a WORD", x.stands(), -1);
            Due.due("maybe() without a WORD", x.maybe(), -1);
            Due.word(x, (String) one[1]);
            Due.due("stands() of " + one[1] + " in " + one[0], x.stands(), (Integer) one[2]);
            Due.due("maybe() of " + one[1] + " in " + one[0], x.maybe(), (Integer) one[3]);
        }
    }

    private static void entire() {
        StoneReaders x = Due.told(BY_HAND + "mouth d slow high 9 takes 1 holds 40;letter s of d;letter t of d a;rain 0 0 1 0 0;");
        Due.due("entire() without a WORD", x.entire(), -1);
        Due.word(x, "s");
        Due.due("entire() of s", x.entire(), 3);
        Due.word(x, "s s s");
        Due.due("entire() of s s s", x.entire(), 13);
        x.pour(0, 1);
        Due.word(x, "p s");
        Due.due("entire() of p s", x.entire(), 3);
        Due.word(x, "s p");
        Due.due("entire() of s p", x.entire(), -1);
        Due.minutes(x, 1);
        Due.word(x, "p");
        Due.due("entire() of p, there", x.entire(), 0);
        Due.word(x, "p s s s s s s");
        Due.due("entire() of seven", x.entire(), 27);
        // An s comes in the 3rd, 15th, 27th, 39th, 51st and then in the 63rd.
        StoneReaders y = Due.told("mouth d slow high 9 takes 1 holds 40;letter s of d;rain 0 0 1 0 0 0 0 0 0 0 0 0;");
        Due.word(y, "s s s s s s");
        Due.minutes(y, 2);
        Due.due("entire() not by 60", y.entire(), -1);
        Due.minutes(y, 1);
        Due.due("entire() by 60", y.entire(), 60);
    }

    private static void entireOnAFullSlate() {
        // q comes in each 41st MINUTE at the soonest: a slate that is full by then takes no more.
        StoneReaders x = Due.told("mouth a nest high 2 takes 1 holds 40;mouth b plain high 1 takes 0 holds 1;"
                + "letter p of b;letter q of a b;sounds tall=1 or 39<stands;rain 1;");
        // b sounds always, a by 40 in it.
        Due.word(x, "p q");
        Due.due("reads(40)", x.reads(40), 1);
        Due.due("entire() in the 40th", x.entire(), 40);
        x.minute();
        Due.due("entire() in the 39th", x.entire(), 39);
        StoneReaders y = Due.told("mouth a nest high 2 takes 1 holds 40;mouth b plain high 1 takes 0 holds 1;"
                + "letter p of b;letter q of a b;sounds tall=1 or 39<stands;rain 0 1 1 1 1 1 1 1 1 1 1 1;");
        Due.word(y, "p q");
        Due.due("when(1) behind the slate's end", y.when(1), 44);
        Due.due("entire() behind the slate's end", y.entire(), -1);
    }
}
