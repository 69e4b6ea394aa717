/** Boundary cases of the TAPE and of TOKENS: the first lines of Terms 1, and promise 2. */
final class TapeEdges {
    private static final String A = "mouth a plain high 1 takes 1 holds 1;";

    private TapeEdges() {
    }

    static void run() {
        Edge.edge("What it is", "An object is used for at most 512 calls after it has been made", TapeEdges::all512Calls);
        Edge.edge("Terms 1", "The TAPE has at most 1,000 signs", TapeEdges::thousandSigns);
        Edge.edge("Terms 1", "10 and 32 .. 126", TapeEdges::whichSigns);
        Edge.edge("Terms 1", "what reads it takes it: it is empty then", TapeEdges::emptyBehindReading);
        Edge.edge("Terms 1", "each as long as can be", TapeEdges::asLongAsCanBe);
        Edge.edge("Terms 1", "blanks (10, 32) between where one likes", TapeEdges::blanks);
        Edge.edge("Terms 1", "WORDS (letters a .. z, 8 at most)", TapeEdges::wordsOfEight);
        Edge.edge("Terms 1", "letters a .. z", TapeEdges::lettersToZ);
        Edge.edge("Terms 1", "NUMBERS (1 to 4 digits", TapeEdges::numbersOfFour);
        Edge.edge("Terms 1", "a letter may stand right behind", TapeEdges::letterBehindNumber);
        Edge.edge("Terms 1", "the signs ( ) < = + - * ;", TapeEdges::theSigns);
        Edge.edge("Terms 1", "All else (a longer WORD or NUMBER, too, at its first sign) is none", TapeEdges::allElse);
        Edge.edge("Promise 2", "Up to 24 signs come behind the TAPE", TapeEdges::upTo24);
        Edge.edge("Promise 2", "the bytes of a, b, c, of each the highest first", TapeEdges::highestFirst);
        Edge.edge("Promise 2", "others than 10 and 32 .. 126", TapeEdges::othersLeftOut);
        Edge.edge("Promise 2", "and what is beyond 1,000, are left out", TapeEdges::beyondLeftOut);
        Edge.edge("Promise 2", "how many there are", TapeEdges::howMany);
    }

    private static String blanksOf(int length) {
        return " ".repeat(length);
    }

    private static void all512Calls() {
        StoneReaders x = new StoneReaders();
        Due.feed(x, A + "letter l of a;rain 1 0;");
        Due.due("front()", x.front(), 0);
        for (int i = 4; i < 511; i++) {
            Due.due("minute() as call " + (i + 1), x.minute(), i % 2 == 0 ? 0 : -1);
        }
        Due.due("count(2) as call 512", x.count(2), 507);
    }

    private static void thousandSigns() {
        StoneReaders x = new StoneReaders();
        Due.feed(x, blanksOf(998));
        Due.due("count(12)", x.count(12), 998);
        Due.feed(x, " ");
        Due.feed(x, "a");
        Due.due("count(12), full", x.count(12), 1000);
        Due.feed(x, "b");
        Due.due("count(12), a sign more", x.count(12), 1000);
        // The 1,000th sign is read, the 1,001st is not.
        Due.due("word() up to the 1,000th", x.word(), 2 + 16 * 999);
        Due.feed(x, blanksOf(1000));
        Due.feed(x, "a");
        Due.due("word() of 1,000 blanks", x.word(), 1 + 16 * 1000);
        Due.feed(x, blanksOf(995));
        Due.feed(x, "rain 1;");
        Due.due("front() without what is beyond", x.front(), 1 + 16 * 1000);
        Due.feed(x, blanksOf(993));
        Due.feed(x, "rain 1;");
        Due.due("front() of 1,000 signs", x.front(), 0);
        Due.due("its rain", x.count(3), 1);
    }

    private static void whichSigns() {
        for (int sign = 0; sign < 256; sign++) {
            boolean stays = sign == 10 || sign >= 32 && sign <= 126;
            for (int shift = 0; shift < 64; shift += 56) {
                Due.due("feed() of " + sign, new StoneReaders().feed((long) sign << shift, 0L, 0L), stays ? 1 : 0);
                Due.due("feed() of " + sign + " in c", new StoneReaders().feed(0L, 0L, (long) sign << shift), stays ? 1 : 0);
            }
        }
    }

    private static void emptyBehindReading() {
        StoneReaders x = new StoneReaders();
        String[][] texts = {{A + "letter l of a;", "rain"}, {"minute;", "pour z 1;"}, {"l", "z"}};
        for (int i = 0; i < 3; i++) {
            for (int bad = 0; bad < 2; bad++) {
                Due.feed(x, texts[i][bad]);
                int fault = i == 0 ? x.front() : i == 1 ? x.day() : x.word();
                Due.due("a FAULT of " + texts[i][bad], fault != 0, bad == 1);
                Due.due("count(12) behind " + texts[i][bad], x.count(12), 0);
            }
        }
        // What comes then stands at place 0.
        Due.wordFault(x, 2, "^z");
        Due.wordFault(x, 2, "^z");
    }

    private static void asLongAsCanBe() {
        StoneReaders x = new StoneReaders();
        Due.frontFault(x, 4, "rain ^12;");
        Due.frontFault(x, 1, "mouth aplain ^high 1 takes 1 holds 1;");
        Due.frontFault(x, 1, A + "letter lof ^a;");
        Due.frontFault(x, 1, "^rainy 1;");
        Due.frontFault(x, 2, A + "letter l of ^aa;");
        Due.frontFault(x, 0, A + "letter aa of a;");
        Due.frontFault(x, 1, "^soundsflow;");
        Due.frontFault(x, 0, "sounds 1<2;");
    }

    private static void blanks() {
        StoneReaders x = new StoneReaders();
        Due.frontFault(x, 0, "mouth a plain high 1takes 1holds 1;letter l of a;rain 1 2;sounds(flow)+1;");
        Due.frontFault(x, 0, "mouth\na\nplain\nhigh\n1\ntakes\n1\nholds\n1\n;\nrain\n1\n2\n;\n");
        Due.frontFault(x, 0, " \n  mouth  a \n plain   high 1 takes 1 holds 1 ; rain 7 ; \n\n ");
        Due.due("its rain", x.count(3), 7);
        Due.frontFault(x, 0, " \n ");
        Due.frontFault(x, 0, "rain 1 2;");
        x.minute();
        Due.due("rain of 1 2", x.count(3), 2);
        Due.frontFault(x, 1, "^ra in 1;");
        Due.frontFault(x, 1, "^ra\nin 1;");
        Due.dayFault(x, 0, " \nminute\n;minute ;\n");
        Due.due("count(8)", x.count(8), 2);
    }

    private static void wordsOfEight() {
        StoneReaders x = new StoneReaders();
        Due.frontFault(x, 0, "mouth abcdefgh plain high 1 takes 1 holds 1;letter z of abcdefgh;");
        Due.frontFault(x, 1, "mouth ^abcdefghi plain high 1 takes 1 holds 1;");
        Due.frontFault(x, 1, "mouth ^abcdefghijklmnopqrstuvwxyz plain high 1 takes 1 holds 1;");
        // WORDS that are alike but for one letter, the first or the eighth, are two.
        Due.frontFault(x, 0, "mouth aaaaaaaa plain high 1 takes 1 holds 1;mouth aaaaaaab plain high 1 takes 1 holds 1;"
                + "mouth baaaaaaa plain high 1 takes 1 holds 1;mouth aaaaaaa plain high 1 takes 1 holds 1;"
                + "letter l of baaaaaaa;letter m of aaaaaaab;");
        Due.due("letter(0)", x.letter(0), 4);
        Due.due("letter(1)", x.letter(1), 2);
        Due.wordFault(x, 2, "^aaaaaaaa");
        Due.wordFault(x, 1, "^aaaaaaaaa");
    }

    private static void lettersToZ() {
        StoneReaders x = new StoneReaders();
        Due.frontFault(x, 0, "mouth az plain high 1 takes 1 holds 1;mouth za plain high 1 takes 1 holds 1;letter z of az;letter a of za;");
        Due.due("letter(1)", x.letter(1), 2);
        Due.wordFault(x, 0, "z a");
        for (char sign : new char[] {'`', '{', 'A', 'Z', '@', '['}) {
            Due.wordFault(x, 1, "^" + sign);
            Due.wordFault(x, 1, "z^" + sign + " a");
        }
    }

    private static void numbersOfFour() {
        StoneReaders x = new StoneReaders();
        Due.frontFault(x, 0, "rain 0007 9;sounds 9999;");
        Due.due("rain 0007", x.count(3), 7);
        Due.frontFault(x, 1, "rain ^00007;");
        Due.frontFault(x, 1, "sounds ^10000;");
        Due.frontFault(x, 4, "rain ^9999;");
        Due.frontFault(x, 1, "rain ^99999999999999999999;");
        // As an int it would be 1, but for its length.
        Due.frontFault(x, 1, "rain ^4294967297;");
        Due.frontFault(x, 1, "rain ^/;");
        Due.frontFault(x, 1, "rain 1^:2;");
    }

    private static void letterBehindNumber() {
        StoneReaders x = new StoneReaders();
        Due.frontFault(x, 0, "mouth a plain high 9takes 8holds 7;sounds 1and 0003or 4;");
        Due.due("mouth(0, 1)", x.mouth(0, 1), 9);
        Due.due("mouth(0, 2)", x.mouth(0, 2), 8);
        Due.due("mouth(0, 3)", x.mouth(0, 3), 7);
        Due.frontFault(x, 1, "rain 1^a;");
        Due.frontFault(x, 1, "rain ^12345a;");
    }

    private static void theSigns() {
        StoneReaders x = new StoneReaders();
        Due.frontFault(x, 0, "sounds (1)<2;");
        Due.frontFault(x, 0, "sounds 1=2+3-4*5;");
        Due.feed(x, "rain 1^2;");
        Due.due("front() of a ^", x.front(), 1 + 16 * 6);
        for (char sign = 33; sign < 127; sign++) {
            // A ^ tells the FAULT's place in what follows.
            if (sign == '^') {
                continue;
            }
            x = new StoneReaders();
            boolean word = sign >= 'a' && sign <= 'z';
            boolean number = sign >= '0' && sign <= '9';
            boolean joins = "<=+-*".indexOf(sign) >= 0;
            if (joins) {
                Due.frontFault(x, 0, "sounds 1" + sign + "2;");
            } else if (sign == ';') {
                Due.frontFault(x, 1, "sounds 1;^2;");
            } else if (!number) {
                Due.frontFault(x, 1, "sounds 1^" + sign + "2;");
                Due.frontFault(x, 1, "rain 1^" + sign + "2;");
            }
            if (!word && sign != ';') {
                Due.frontFault(x, 1, "^" + sign + ";");
                Due.frontFault(x, 1, "rain 1;^" + sign);
            }
        }
    }

    private static void allElse() {
        StoneReaders x = new StoneReaders();
        Due.frontFault(x, 1, "rain 1;^longernames 1;");
        Due.frontFault(x, 1, "rain 1 ^123456;");
        Due.frontFault(x, 1, "rain 1 ^!;");
        Due.frontFault(x, 1, "rain 1;  ^abcdefghi");
        Due.frontFault(x, 1, "rain 1;^\"");
        // Its first eight signs are not read for themselves.
        Due.frontFault(x, 1, "^soundsab cd;");
        Due.frontFault(x, 1, "mouth ^abcdefghplain high 1 takes 1 holds 1;");
        Due.dayFault(x, 1, "^minuteminute;");
    }

    private static void upTo24() {
        StoneReaders x = new StoneReaders();
        long eight = 0x6161616161616161L;
        Due.due("feed() of 24", x.feed(eight, eight, eight), 24);
        Due.due("feed() of none", x.feed(0L, 0L, 0L), 24);
        Due.due("feed() of 1", x.feed(0L, 0x61L, 0L), 25);
        Due.due("feed() of 24 more", x.feed(eight, eight, eight), 49);
    }

    private static void highestFirst() {
        StoneReaders x = new StoneReaders();
        // "rain 1 2" " 3 4 5 6" " 7 8 9;" and two blanks.
        x.feed(0x7261696e20312032L, 0x2033203420352036L, 0x203720382039203bL);
        Due.due("front()", x.front(), 0);
        for (int i = 1; i <= 9; i++) {
            Due.due("count(3) in minute " + x.count(2), x.count(3), i);
            x.minute();
        }
    }

    private static void othersLeftOut() {
        StoneReaders x = new StoneReaders();
        // "rain" with 0, 9, 11, 31, 127, 128, 138 and 255 between: it is one WORD.
        Due.due("feed() of four in eight", x.feed(0x72006109690b6eL, 0L, 0L), 4);
        Due.due("feed() of what is left out", x.feed(0x1f7f808affL, -1L, Long.MIN_VALUE), 4);
        Due.feed(x, " 7;");
        Due.due("front()", x.front(), 0);
        Due.due("count(3)", x.count(3), 7);
    }

    private static void beyondLeftOut() {
        StoneReaders x = new StoneReaders();
        long eight = 0x2020202020202020L;
        for (int i = 0; i < 41; i++) {
            x.feed(eight, eight, eight);
        }
        Due.due("feed() up to 1,000 within b", x.feed(eight, 0x2020202020207a79L, 0x7878787878787878L), 1000);
        Due.due("feed() of what is beyond", x.feed(0x61L, 0x61L, 0x61L), 1000);
        Due.due("word(): zy is the end", x.word(), 2 + 16 * 998);
    }

    private static void howMany() {
        StoneReaders x = new StoneReaders();
        Due.due("feed() of none at all", x.feed(0L, 0L, 0L), 0);
        Due.due("feed() of blanks", x.feed(0x2020L, 0x0aL, 0L), 3);
        Due.due("feed() of none", x.feed(0L, 0L, 0L), 3);
        Due.due("count(12)", x.count(12), 3);
        x.day();
        Due.due("feed() behind reading", x.feed(0x7eL, 0L, 0L), 1);
    }
}
