/** Promises 1 to 5: a new object, the TAPE, and what is read from it. */
public final class ReadingTest {
    private static final String A = "mouth a plain high 2 takes 1 holds 1;";
    private static final String B = "mouth b plain high 1 takes 1 holds 1;";
    private static final String AB = A + B;

    public static void main(String[] args) {
        newObject();
        tape();
        tokens();
        mouths();
        gutters();
        letters();
        rain();
        names();
        law();
        frontMakesAllNew();
        faultsLeaveAll();
        days();
        words();
        Due.end();
    }

    private static void newObject() {
        StoneReaders x = new StoneReaders();
        for (int what = 0; what <= 12; what++) {
            Due.due("new: count(" + what + ")", x.count(what), 0);
        }
        Due.due("new: count(-1)", x.count(-1), -1);
        Due.due("new: count(13)", x.count(13), -1);
        Due.due("new: mouth(0, 0)", x.mouth(0, 0), -2);
        Due.due("new: letter(0)", x.letter(0), -1);
        Due.due("new: slate(0)", x.slate(0), -1);
        Due.due("new: undo()", x.undo(), false);
        Due.due("new: mark(0, true)", x.mark(0, true), false);
        Due.due("new: pour(0, 1)", x.pour(0, 1), -1);
        Due.due("new: stop(0)", x.stop(0), false);
        Due.due("new: clear(0)", x.clear(0), false);
        Due.due("new: see(0, true)", x.see(0, true), false);
        Due.due("new: judged(1)", x.judged(1), -1);
        Due.due("new: last()", x.last(), -1);
        Due.due("new: minute()", x.minute(), -1);
        Due.due("new: count(2) behind it", x.count(2), 1);
        Due.due("new: count(6) behind it", x.count(6), 0);
    }

    private static void tape() {
        StoneReaders x = new StoneReaders();
        // NUL, 9, 10, 31, 32, 126, 127, 255: three of them stay.
        Due.due("feed of odd signs", x.feed(0x00090a1f207e7fffL, 0L, 0L), 3);
        Due.due("count(12)", x.count(12), 3);
        Due.due("word() of newline, blank, ~", x.word(), 1 + 16 * 2);
        Due.due("the TAPE is taken", x.count(12), 0);
        Due.due("feed of signs above 127", x.feed(0x80a0e1f2ffffffffL, -1L, -1L), 0);
        // 'm' 'o' 'u' 't' 'h' in three parts: the highest byte comes first.
        Due.due("feed in parts", x.feed(0x6d6f000000000000L, 0x7500000000000000L, 0x0000000000007468L), 5);
        Due.due("front() of mouth", x.front(), 1 + 16 * 5);
        for (int i = 1; i <= 41; i++) {
            Due.due("feed of 24 blanks", x.feed(0x2020202020202020L, 0x2020202020202020L, 0x2020202020202020L), 24 * i);
        }
        Due.due("feed over 1,000", x.feed(0x2020202020202020L, 0x2020202020202020L, 0x6161616161616161L), 1000);
        Due.due("feed beyond 1,000", x.feed(0x6161616161616161L, 0L, 0L), 1000);
        Due.due("word() of 1,000 blanks", x.word(), 1 + 16 * 1000);
        Due.due("front() of nothing", x.front(), 0);
        Due.due("day() of nothing", x.day(), 0);
    }

    private static void tokens() {
        StoneReaders x = new StoneReaders();
        Due.frontFault(x, 0, "");
        Due.frontFault(x, 0, " \n  \n");
        Due.frontFault(x, 0, "\nmouth\n\nabcdefgh\nplain high0020takes 9holds 40 ;");
        Due.due("high 0020", x.mouth(0, 1), 20);
        Due.frontFault(x, 0, "mouth zazzy plain high 1 takes 1 holds 1;mouth az plain high 1 takes 1 holds 1;letter z of az;");
        Due.due("letter(0) of az", x.letter(0), 2);
        Due.frontFault(x, 3, A + "letter aa of a;mouth b plain high 1 takes 1 holds 1;letter ^aa of b;");
        Due.frontFault(x, 0, A + "mouth aa plain high 1 takes 1 holds 1;mouth aaaaaaaa plain high 1 takes 1 holds 1;");
        Due.frontFault(x, 0, B + "mouth bb plain high 1 takes 1 holds 1;mouth bbb plain high 1 takes 1 holds 1;");
        Due.frontFault(x, 0, B + "mouth cb plain high 1 takes 1 holds 1;letter bc of b;letter zz of cb;");
        Due.due("letter(1) of cb", x.letter(1), 2);
        Due.frontFault(x, 1, "^mouthmouth a plain high 1 takes 1 holds 1;");
        Due.frontFault(x, 1, "mouth ^abcdefghi plain high 1 takes 1 holds 1;");
        Due.frontFault(x, 1, "mouth a plain high ^00001 takes 1 holds 1;");
        Due.frontFault(x, 1, "mouth a plain high ^123456789012345 takes 1 holds 1;");
        Due.frontFault(x, 4, "mouth a plain high ^9999 takes 1 holds 1;");
        Due.frontFault(x, 1, "^Mouth a plain high 1 takes 1 holds 1;");
        Due.frontFault(x, 1, "mouth ^A plain high 1 takes 1 holds 1;");
        Due.frontFault(x, 1, "mouth a^_ plain high 1 takes 1 holds 1;");
        Due.frontFault(x, 1, "mouth a^1 plain high 1 takes 1 holds 1;");
        Due.frontFault(x, 1, "mouth a plain high ^-1 takes 1 holds 1;");
        Due.frontFault(x, 1, "^;");
        Due.frontFault(x, 1, "^7");
        Due.frontFault(x, 1, "^~");
        Due.frontFault(x, 1, "rain 1;^;");
        Due.frontFault(x, 0, "rain 1;  \n");
        // What an earlier, longer text left behind the end counts for nothing.
        Due.frontFault(x, 4, "rain ^1999;");
        Due.frontFault(x, 1, "rain 1^");
        Due.wordFault(x, 2, "^longer");
        Due.wordFault(x, 2, "^lon");
        StringBuilder full = new StringBuilder();
        while (full.length() < 994) {
            full.append(' ');
        }
        Due.frontFault(x, 1, full + "rain 7^");
        Due.frontFault(x, 1, full + "^rained");
        Due.frontFault(x, 1, "rain 1  \n^");
    }

    private static void mouths() {
        StoneReaders x = new StoneReaders();
        Due.frontFault(x, 0, "mouth a plain high 1 takes 0 holds 0;mouth b wide high 20 takes 9 holds 40;"
                + "mouth c slow high 3 takes 4 holds 5;mouth d nest high 3 takes 4 holds 5;");
        int[][] want = {{0, 1, 0, 0}, {1, 20, 9, 40}, {2, 3, 4, 5}, {3, 3, 4, 5}};
        for (int i = 0; i < 4; i++) {
            for (int what = 0; what < 4; what++) {
                Due.due("mouth(" + i + ", " + what + ")", x.mouth(i, what), want[i][what]);
            }
        }
        Due.frontFault(x, 1, "mouth^");
        Due.frontFault(x, 1, "mouth a^");
        Due.frontFault(x, 1, "mouth ^; ");
        Due.frontFault(x, 1, "mouth ^7 plain");
        Due.frontFault(x, 1, "mouth a ^b high 1 takes 1 holds 1;");
        Due.frontFault(x, 1, "mouth a ^high 1 takes 1 holds 1;");
        Due.frontFault(x, 1, "mouth a plain ^takes 1 high 1 holds 1;");
        Due.frontFault(x, 1, "mouth a plain high ^takes 1 holds 1;");
        Due.frontFault(x, 1, "mouth a plain high 1 takes 1 holds 1^");
        Due.frontFault(x, 1, "mouth a plain high 1 takes 1 holds 1 ^mouth");
        Due.frontFault(x, 1, "mouth a plain high 1 takes 1 holds 1 ^2;");
        Due.frontFault(x, 1, "mouth a plain high 1 takes 1 ^;");
        Due.frontFault(x, 4, "mouth a plain high ^0 takes 1 holds 1;");
        Due.frontFault(x, 4, "mouth a plain high ^21 takes 1 holds 1;");
        Due.frontFault(x, 4, "mouth a plain high 1 takes ^10 holds 1;");
        Due.frontFault(x, 4, "mouth a plain high 1 takes 1 holds ^41;");
        Due.frontFault(x, 3, A + "mouth ^a plain high 1 takes 1 holds 1;");
        Due.frontFault(x, 3, A + "letter l of a;mouth ^l plain high 1 takes 1 holds 1;");
        StringBuilder seven = new StringBuilder();
        for (char c = 'a'; c < 'h'; c++) {
            seven.append("mouth ").append(c).append(" plain high 1 takes 1 holds 1;");
        }
        Due.frontFault(x, 0, seven.toString());
        Due.due("count(0)", x.count(0), 7);
        Due.frontFault(x, 5, seven + "^mouth a wide");
        Due.frontFault(x, 5, seven + "^mouth ;");
        Due.frontFault(x, 1, seven + "^mouths;");
    }

    private static void gutters() {
        StoneReaders x = new StoneReaders();
        String c = "mouth c plain high 2 takes 1 holds 1;";
        Due.frontFault(x, 0, AB + "gutter a b;");
        Due.due("mouth(0, 4)", x.mouth(0, 4), 1);
        Due.due("mouth(1, 4)", x.mouth(1, 4), -1);
        Due.frontFault(x, 0, AB + c + "gutter a b;gutter c b;");
        Due.frontFault(x, 1, AB + "gutter ^;");
        Due.frontFault(x, 1, AB + "gutter ^of b;");
        Due.frontFault(x, 1, AB + "gutter ^1 b;");
        Due.frontFault(x, 2, AB + "gutter ^d b;");
        Due.frontFault(x, 2, AB + "letter l of a;gutter ^l b;");
        Due.frontFault(x, 1, AB + "gutter a ^;");
        Due.frontFault(x, 1, AB + "gutter a ^nest;");
        Due.frontFault(x, 2, AB + "gutter a ^d;");
        Due.frontFault(x, 2, A + "gutter a ^b;" + B);
        Due.frontFault(x, 3, AB + c + "gutter a ^c;");
        Due.frontFault(x, 3, AB + "gutter b ^a;");
        Due.frontFault(x, 3, AB + "gutter a ^a;");
        Due.frontFault(x, 3, AB + "gutter a b;gutter ^a b;");
        Due.frontFault(x, 3, AB + "gutter a b;gutter ^a d;");
        Due.frontFault(x, 1, AB + "gutter a b ^a;");
        Due.frontFault(x, 1, AB + "gutter a b^");
    }

    private static void letters() {
        StoneReaders x = new StoneReaders();
        String c = "mouth c plain high 2 takes 1 holds 1;";
        Due.frontFault(x, 0, AB + "letter l of b a;letter m of a;");
        Due.due("letter(0)", x.letter(0), 3);
        Due.due("letter(1)", x.letter(1), 1);
        Due.due("letter(2)", x.letter(2), -1);
        Due.due("letter(-1)", x.letter(-1), -1);
        Due.frontFault(x, 1, AB + "letter^");
        Due.frontFault(x, 1, AB + "letter ^of a;");
        Due.frontFault(x, 1, AB + "letter l ^a;");
        Due.frontFault(x, 1, AB + "letter l of ^;");
        Due.frontFault(x, 1, AB + "letter l of ^of;");
        Due.frontFault(x, 1, AB + "letter l of a ^of;");
        Due.frontFault(x, 1, AB + "letter l of a ^1;");
        Due.frontFault(x, 1, AB + "letter l of a^");
        Due.frontFault(x, 2, AB + "letter l of a ^c;" + c);
        Due.frontFault(x, 2, AB + "letter l of ^l;");
        Due.frontFault(x, 3, AB + "letter ^a of b;");
        Due.frontFault(x, 3, AB + "letter l of a;letter ^l of b;");
        Due.frontFault(x, 3, AB + "letter l of a b ^a;");
        Due.frontFault(x, 3, AB + "letter l of a b;letter m of b a^;");
        Due.frontFault(x, 1, AB + "letter l of a b;letter m of b a ^rain");
        StringBuilder six = new StringBuilder(AB + c);
        String[] of = {"a", "b", "c", "a b", "a c", "b c"};
        for (int i = 0; i < 6; i++) {
            six.append("letter ").append((char) ('p' + i)).append(" of ").append(of[i]).append(';');
        }
        Due.frontFault(x, 0, six.toString());
        Due.due("count(1)", x.count(1), 6);
        Due.due("letter(5)", x.letter(5), 6);
        Due.frontFault(x, 5, six + "^letter w of a b c;");
        StringBuilder seven = new StringBuilder();
        StringBuilder all = new StringBuilder("letter l of");
        for (char m = 'a'; m < 'h'; m++) {
            seven.append("mouth ").append(m).append(" plain high 1 takes 1 holds 1;");
            all.append(' ').append(m);
        }
        Due.frontFault(x, 0, seven.toString() + all + ";");
        Due.due("letter(0) of seven", x.letter(0), 127);
        Due.frontFault(x, 3, seven.toString() + all + " ^d;");
        Due.frontFault(x, 2, seven.toString() + all + " ^h;");
    }

    private static void rain() {
        StoneReaders x = new StoneReaders();
        Due.frontFault(x, 0, "rain 0 9 1 2 3 4 5 6 7 8 9 3;");
        int[] want = {0, 9, 1, 2, 3, 4, 5, 6, 7, 8, 9, 3, 0, 9};
        for (int rain : want) {
            Due.due("count(3) in minute " + x.count(2), x.count(3), rain);
            x.minute();
        }
        Due.frontFault(x, 1, "rain ^;");
        Due.frontFault(x, 1, "rain ^a;");
        Due.frontFault(x, 1, "rain 1 ^a;");
        Due.frontFault(x, 1, "rain 1^");
        Due.frontFault(x, 4, "rain 1 ^10;");
        Due.frontFault(x, 5, "rain 1 2 3 4 5 6 7 8 9 1 2 3 ^4;");
        Due.frontFault(x, 5, "rain 1 2 3 4 5 6 7 8 9 1 2 3 ^9;");
        Due.frontFault(x, 4, "rain 1 2 3 4 5 6 7 8 9 1 2 3 ^10;");
        Due.frontFault(x, 1, "rain 1 2 3 4 5 6 7 8 9 1 2 3 ^a;");
        Due.frontFault(x, 1, "rain 1 2 3 4 5 6 7 8 9 1 2 3 ^00004;");
        Due.frontFault(x, 3, "rain 1;^rain 2;");
        Due.frontFault(x, 3, "rain 1;^rain ;");
    }

    private static void names() {
        StoneReaders x = new StoneReaders();
        String[] taken = {"mouth", "high", "takes", "holds", "gutter", "letter", "of", "rain", "sounds",
            "minute", "pour", "stop", "clear", "plain", "wide", "slow", "nest", "not", "and", "or"};
        for (String name : taken) {
            Due.frontFault(x, 1, "mouth ^" + name + " plain high 1 takes 1 holds 1;");
        }
        String[] free = {"flow", "stands", "tall", "wet", "front", "day", "word", "no", "mouths", "o"};
        for (String name : free) {
            Due.frontFault(x, 0, "mouth " + name + " plain high 1 takes 1 holds 1;sounds flow;");
        }
    }

    private static void law() {
        StoneReaders x = new StoneReaders();
        Due.frontFault(x, 1, "sounds ^;");
        Due.frontFault(x, 1, "sounds ^");
        Due.frontFault(x, 1, "sounds ^tell;");
        Due.frontFault(x, 1, "sounds ^of;");
        Due.frontFault(x, 1, "sounds flow^");
        Due.frontFault(x, 1, "sounds flow ^flow;");
        Due.frontFault(x, 1, "sounds flow ^not flow;");
        Due.frontFault(x, 1, "sounds ^and flow;");
        Due.frontFault(x, 1, "sounds flow and ^or;");
        Due.frontFault(x, 1, "sounds flow and ^;");
        Due.frontFault(x, 1, "sounds 1<2^<3;");
        Due.frontFault(x, 1, "sounds 1<2^=3;");
        Due.frontFault(x, 0, "sounds (1<2)=3;");
        Due.frontFault(x, 0, "sounds 1<2 and 3=4 or 5<6;");
        Due.frontFault(x, 1, "sounds 1 + ^;");
        Due.frontFault(x, 1, "sounds 1 + ^-1;");
        Due.frontFault(x, 1, "sounds ^-1;");
        Due.frontFault(x, 1, "sounds 1 * ^* 1;");
        Due.frontFault(x, 1, "sounds (^);");
        Due.frontFault(x, 1, "sounds (flow^;");
        Due.frontFault(x, 1, "sounds (flow ^flow);");
        Due.frontFault(x, 1, "sounds flow^);");
        Due.frontFault(x, 1, "sounds ^00001;");
        Due.frontFault(x, 0, "sounds 9999;");
        Due.frontFault(x, 0, "sounds 1and 2or 3;");
        Due.frontFault(x, 0, "sounds((((1))));");
        Due.frontFault(x, 5, "sounds(((((^1)))));");
        Due.frontFault(x, 5, "sounds(((((^(1))))));");
        Due.frontFault(x, 1, "sounds(((((^;");
        Due.frontFault(x, 1, "sounds(((((^)))));");
        Due.frontFault(x, 0, "sounds not not not not flow;");
        Due.frontFault(x, 5, "sounds not not not not not ^flow;");
        Due.frontFault(x, 5, "sounds not not not not not ^not flow;");
        Due.frontFault(x, 5, "sounds not(not(not ^flow));");
        Due.frontFault(x, 0, "sounds not(not(flow))*(not flow)+((((wet))));");
        Due.frontFault(x, 5, "sounds ((((flow+not ^wet))));");
        Due.frontFault(x, 3, "sounds flow;^sounds flow;");
        Due.frontFault(x, 3, "sounds flow;^sounds ;");
        StringBuilder longest = new StringBuilder("sounds 1");
        for (int i = 0; i < 495; i++) {
            longest.append("+1");
        }
        Due.frontFault(x, 0, longest.append(";").toString());
    }

    private static void frontMakesAllNew() {
        StoneReaders x = Due.told(AB + "mouth c nest high 1 takes 1 holds 5;letter l of a;rain 3;");
        Due.day(x, "minute;stop a;");
        Due.word(x, "l");
        x.minute();
        x.pour(0, 3);
        x.clear(2);
        x.see(0, true);
        x.mark(1, false);
        x.mark(0, false);
        x.mark(3, false);
        Due.frontFault(x, 0, AB + "mouth c nest high 1 takes 1 holds 5;letter l of a;rain 3;");
        int[] want = {3, 1, 0, 3, 0, 4, 0, 0, 0, 0, 0, 0, 0};
        for (int what = 0; what <= 12; what++) {
            Due.due("new FRONT: count(" + what + ")", x.count(what), want[what]);
        }
        Due.due("new FRONT: mark(1, true)", x.mark(1, true), false);
        Due.due("new FRONT: mark(0, true)", x.mark(0, true), false);
        Due.due("new FRONT: mark(3, true)", x.mark(3, true), false);
        Due.due("new FRONT: undo()", x.undo(), false);
        Due.due("new FRONT: sounds()", x.sounds(), 0);
        Due.due("new FRONT: last()", x.last(), -1);
        Due.due("new FRONT: mouth(0, 7)", x.mouth(0, 7), 0);
        Due.due("new FRONT: stands()", x.stands(), -1);
        Due.frontFault(x, 0, "");
        Due.due("an empty FRONT: count(0)", x.count(0), 0);
        Due.due("an empty FRONT: count(3)", x.count(3), 0);
    }

    private static void faultsLeaveAll() {
        StoneReaders x = Due.told(A + "letter l of a;rain 1;");
        Due.day(x, "minute;");
        Due.word(x, "l l");
        x.minute();
        Due.frontFault(x, 1, "mouth q wide high 9 takes 9 holds 9;rain 7;sounds 0;^oops");
        Due.dayFault(x, 1, "minute;minute;^oops");
        Due.wordFault(x, 2, "l ^m");
        Due.due("count(0) behind FAULTS", x.count(0), 1);
        Due.due("mouth(0, 1) behind FAULTS", x.mouth(0, 1), 2);
        Due.due("count(2) behind FAULTS", x.count(2), 1);
        Due.due("count(3) behind FAULTS", x.count(3), 1);
        Due.due("count(6) behind FAULTS", x.count(6), 1);
        Due.due("count(8) behind FAULTS", x.count(8), 1);
        Due.due("count(9) behind FAULTS", x.count(9), 2);
        Due.due("count(11) behind FAULTS", x.count(11), 1);
        Due.due("minute() behind FAULTS", x.minute(), 0);
        Due.due("stands() behind FAULTS", x.stands(), 0);
    }

    private static void days() {
        StoneReaders x = Due.told(AB + "letter l of a;");
        Due.dayFault(x, 0, "minute;pour a 1;pour b 20;stop a;clear b;");
        Due.due("count(8)", x.count(8), 5);
        Due.dayFault(x, 0, "");
        Due.due("count(8) of an empty DAY", x.count(8), 0);
        Due.dayFault(x, 1, "^mouth a;");
        Due.dayFault(x, 1, "minute^");
        Due.dayFault(x, 1, "minute ^a;");
        Due.dayFault(x, 1, "minute;^;");
        Due.dayFault(x, 1, "pour ^1;");
        Due.dayFault(x, 1, "pour a ^;");
        Due.dayFault(x, 1, "pour a ^b;");
        Due.dayFault(x, 1, "pour a 1 ^1;");
        Due.dayFault(x, 4, "pour a ^0;");
        Due.dayFault(x, 4, "pour a ^21;");
        Due.dayFault(x, 2, "pour ^c 21;");
        Due.dayFault(x, 2, "stop ^l;");
        Due.dayFault(x, 2, "clear ^c;");
        Due.dayFault(x, 1, "clear ^stop;");
        Due.dayFault(x, 1, "stop a ^b;");
        StringBuilder forty = new StringBuilder();
        for (int i = 0; i < 40; i++) {
            forty.append(i % 2 == 0 ? "minute;" : "pour a 1;");
        }
        Due.dayFault(x, 0, forty.toString());
        Due.due("count(8) of 40", x.count(8), 40);
        Due.dayFault(x, 5, forty + "^minute;");
        Due.dayFault(x, 5, forty + "^stop c;");
        Due.dayFault(x, 1, forty + "^oops;");
        Due.dayFault(x, 1, forty + "^;");
    }

    private static void words() {
        StoneReaders x = Due.told(AB + "letter l of a;letter m of b;");
        Due.wordFault(x, 0, "l m l m l m l");
        Due.due("count(9)", x.count(9), 7);
        Due.wordFault(x, 0, "\nl\n");
        Due.due("count(9)", x.count(9), 1);
        Due.wordFault(x, 1, "^");
        Due.wordFault(x, 1, "  ^");
        Due.wordFault(x, 1, "^;");
        Due.wordFault(x, 1, "l^;");
        Due.wordFault(x, 1, "l ^of");
        Due.wordFault(x, 1, "l ^1");
        Due.wordFault(x, 2, "^a");
        Due.wordFault(x, 2, "^lm");
        Due.wordFault(x, 5, "l m l m l m l ^m");
        Due.wordFault(x, 2, "l m l m l m l ^a");
        Due.wordFault(x, 1, "l m l m l m l ^or");
        Due.due("count(9) behind FAULTS", x.count(9), 1);
    }
}
