/** Boundary cases of the E of sounds: Terms 1. */
final class LawEdges {
    private LawEdges() {
    }

    static void run() {
        Edge.edge("Terms 1", "E: TEST { and TEST or or TEST }, from the left", LawEdges::fromTheLeft);
        Edge.edge("Terms 1", "TEST: SUM, or SUM < SUM, or SUM = SUM", LawEdges::oneComparison);
        Edge.edge("Terms 1", "SUM: PRODUCT { + or - PRODUCT }", LawEdges::sums);
        Edge.edge("Terms 1", "PRODUCT: PART { * PART }", LawEdges::products);
        Edge.edge("Terms 1", "PART: a NUMBER, a fact, not PART, ( E )", LawEdges::parts);
        Edge.edge("Terms 1", "no PART lies within 5 of not and ( )", LawEdges::withinFive);
        Edge.edge("Terms 1", "flow (what it spouts in that minute)", LawEdges::flow);
        Edge.edge("Terms 1", "stands (what stands in it behind that)", LawEdges::stands);
        Edge.edge("Terms 1", "tall (how high it is)", LawEdges::tall);
        Edge.edge("Terms 1", "wet (the minute's rain)", LawEdges::wet);
        Edge.edge("Terms 1", "Of not, and, or, < and = comes 1 or 0", LawEdges::oneOrZero);
        Edge.edge("Terms 1", "what is not 0 is so", LawEdges::notZeroIsSo);
        Edge.edge("Terms 1", "ints wrap", LawEdges::intsWrap);
        Edge.edge("Terms 1", "Without sounds: flow", LawEdges::withoutSounds);
    }

    /** Who sounds, by a law, in a MINUTE of rain 2: a flow 3, stands 3, tall 7; the nest b 0, 4, 2. */
    private static int soundsBy(String law) {
        StoneReaders x = Due.told("mouth a plain high 7 takes 3 holds 40;mouth b nest high 2 takes 2 holds 40;"
                + "rain 2;sounds " + law + ";");
        x.minute();
        return x.sounds();
    }

    private static void by(String law, int bits) {
        Due.due("sounds() by " + law, soundsBy(law), bits);
    }

    private static void is(String e, int value) {
        by("(" + e + ") = 0" + (value < 0 ? "-" + -value : "+" + value), 3);
        by("(" + e + ") = 0" + (value < 0 ? "-" + -value : "+" + value) + "+1", 0);
    }

    private static void fromTheLeft() {
        is("1 or 1 and 0", 0);
        is("0 and 1 or 1", 1);
        is("0 and 0 and 1 or 1", 1);
        is("1 or 0 or 0 and 0", 0);
        is("1 and 2 and 3", 1);
        is("0 or 0 or 9", 1);
        // As long as the TAPE lets it be.
        by("0" + "or 1".repeat(200), 3);
        by("1" + "or 1".repeat(200) + "and 0", 0);
    }

    private static void oneComparison() {
        StoneReaders x = new StoneReaders();
        Due.frontFault(x, 1, "sounds 1<2^<3;");
        Due.frontFault(x, 1, "sounds 1<2^=1;");
        Due.frontFault(x, 1, "sounds 1=1^<2;");
        Due.frontFault(x, 1, "sounds 1=1^=1;");
        Due.frontFault(x, 1, "sounds 1<^;");
        Due.frontFault(x, 1, "sounds ^<1;");
        is("(1<2)<2", 1);
        is("(3=3)=1", 1);
        is("1<2 and 3<4", 1);
        is("1=2 or 3=4", 0);
        is("2<2", 0);
        is("1<2", 1);
        is("2<1", 0);
        is("2=2", 1);
        is("2=1", 0);
        is("1+1<3", 1);
        is("2*2=4", 1);
        is("0-1<0", 1);
    }

    private static void sums() {
        is("9-4-3", 2);
        is("9-4+3", 8);
        is("1+2+3+4", 10);
        is("2-3", -1);
        is("2+3*4-5*2", 4);
        StoneReaders x = new StoneReaders();
        Due.frontFault(x, 1, "sounds ^+1;");
        Due.frontFault(x, 1, "sounds ^-1;");
        Due.frontFault(x, 1, "sounds 1+^+1;");
        Due.frontFault(x, 1, "sounds 1-^;");
    }

    private static void products() {
        is("2*3*4", 24);
        is("2*(3+4)", 14);
        is("3*0", 0);
        StoneReaders x = new StoneReaders();
        Due.frontFault(x, 1, "sounds ^*1;");
        Due.frontFault(x, 1, "sounds 1*^*1;");
        Due.frontFault(x, 1, "sounds 1*^;");
    }

    private static void parts() {
        is("0", 0);
        is("9999", 9999);
        is("not 0", 1);
        is("(7)", 7);
        by("(1 and 1)", 3);
        by("(0 or 0)", 0);
        by("(1<2 and 3=3)*(0 or 0<0)", 0);
        is("not 0*3", 3);
        is("not 0+1", 2);
        is("not 1<2", 1);
        StoneReaders x = new StoneReaders();
        Due.frontFault(x, 1, "sounds^;");
        Due.frontFault(x, 1, "sounds (^);");
        Due.frontFault(x, 1, "sounds not^;");
        Due.frontFault(x, 1, "sounds (1^;");
        Due.frontFault(x, 1, "sounds 1^);");
        Due.frontFault(x, 1, "sounds 1 ^1;");
        Due.frontFault(x, 1, "sounds flow ^not 1;");
        Due.frontFault(x, 1, "sounds ^tells;");
        Due.frontFault(x, 1, "mouth a plain high 1 takes 1 holds 1;sounds ^a;");
    }

    private static void withinFive() {
        StoneReaders x = new StoneReaders();
        Due.frontFault(x, 0, "sounds ((((1))));");
        Due.frontFault(x, 5, "sounds (((((^1)))));");
        Due.frontFault(x, 0, "sounds not not not not 1;");
        Due.frontFault(x, 5, "sounds not not not not not ^1;");
        Due.frontFault(x, 0, "sounds not(not(flow));");
        Due.frontFault(x, 5, "sounds not(not(not ^flow));");
        Due.frontFault(x, 5, "sounds not(not((^wet)));");
        // What is closed, or not'ed, is no longer around what comes behind.
        Due.frontFault(x, 0, "sounds ((((1))))+((((1))))*not not not not 1+((1)+(1)+(1)+(1)+(1)+(1));");
        Due.frontFault(x, 5, "sounds ((((1))))+(((((^1)))));");
        by("not(not(1<2 and 3*4-2=10))", 3);
        by("not(not(1<2 and 3*4-2=9))", 0);
        // All that joins waits at once, on each level.
        by("0 or 6=5+1*(0 or 3=2+1*(0 or 3=2+1*(0 or 3=2+1*(0 or 1=0+1*1))))", 3);
        by("0 or 6=5+1*(0 or 3=2+1*(0 or 3=2+1*(0 or 3=2+1*(0 or 1=0+1*0))))", 0);
    }

    private static void flow() {
        by("flow = 3", 1);
        by("flow = 0", 2);
        by("flow", 1);
        StoneReaders x = Due.told("mouth a wide high 1 takes 0 holds 40;sounds flow<4 and flow;");
        x.pour(0, 8);
        x.minute();
        Due.due("sounds() by 6", x.sounds(), 0);
        x.minute();
        Due.due("sounds() by 2", x.sounds(), 1);
    }

    private static void stands() {
        by("stands = 3", 1);
        by("stands = 4", 2);
        StoneReaders x = Due.told("mouth a plain high 1 takes 0 holds 9;sounds stands = 6;");
        x.pour(0, 20);
        // 11 run over, 3 are spouted.
        x.minute();
        Due.due("sounds() by 6 behind that", x.sounds(), 1);
        x.minute();
        Due.due("sounds() by 3 behind that", x.sounds(), 0);
    }

    private static void tall() {
        by("tall = 7", 1);
        by("tall = 2", 2);
        by("tall < 7", 2);
        StoneReaders x = Due.told("mouth a plain high 20 takes 1 holds 1;mouth b plain high 1 takes 1 holds 1;sounds tall-1;");
        x.minute();
        Due.due("sounds() by tall-1", x.sounds(), 1);
    }

    private static void wet() {
        by("wet = 2", 3);
        by("wet-2", 0);
        StoneReaders x = Due.told("mouth a plain high 1 takes 0 holds 1;rain 9 0;sounds wet;");
        x.minute();
        Due.due("sounds() by 9", x.sounds(), 1);
        x.minute();
        Due.due("sounds() by 0", x.sounds(), 0);
        StoneReaders y = Due.told("mouth a plain high 1 takes 0 holds 1;sounds wet=0;");
        y.minute();
        Due.due("sounds() without rain", y.sounds(), 1);
    }

    private static void oneOrZero() {
        is("not 9", 0);
        is("not 0", 1);
        is("not not 9", 1);
        is("9 and 8", 1);
        is("9 and 0", 0);
        is("0 and 9", 0);
        is("9 or 8", 1);
        is("0 or 8", 1);
        is("8 or 0", 1);
        is("0 or 0", 0);
        is("8<9", 1);
        is("9<9", 0);
        is("9=9", 1);
        is("9=8", 0);
        is("(8<9)+(9=9)+(9 or 8)+(9 and 8)+not 0", 5);
    }

    private static void notZeroIsSo() {
        by("0-1", 3);
        by("0-flow", 1);
        by("2-wet", 0);
        is("not(0-5)", 0);
        is("(0-5) and (0-1)", 1);
        is("0 or (0-1)", 1);
        is("(0-1) or 0", 1);
    }

    private static void intsWrap() {
        // 2^31 - 1 and what comes behind it.
        is("(8192*8192*31+8191*8192+8191<0)+2*(8192*8192*31+8191*8192+8191+8192*8192<0)", 2);
        is("4096*4096*256", 0);
        is("4096*4096*128<0", 1);
        is("4096*4096*128-1<0", 0);
        is("0-4096*4096*128=4096*4096*128", 1);
        is("not(4096*4096*256)", 1);
        is("9999*9999*9999<0", 9999 * 9999 * 9999 < 0 ? 1 : 0);
        by("8192*8192*64", 0);
        by("4096*4096*256 and 1", 0);
    }

    private static void withoutSounds() {
        StoneReaders x = Due.told("mouth a plain high 7 takes 3 holds 40;mouth b nest high 2 takes 2 holds 40;rain 2 0 0;");
        x.minute();
        Due.due("sounds() of who spouts", x.sounds(), 1);
        x.minute();
        x.minute();
        Due.due("sounds() of nobody", x.sounds(), 0);
        // A law of an earlier FRONT is no longer there.
        Due.frontFault(x, 0, "mouth a nest high 7 takes 3 holds 40;rain 2;sounds 1;");
        Due.frontFault(x, 0, "mouth a nest high 7 takes 3 holds 40;rain 2;");
        x.minute();
        Due.due("sounds() without a law", x.sounds(), 0);
        // Nor is what a longer law had behind the end of this one.
        for (String law : new String[] {"sounds not flow;", "sounds flow and not 0 or not 1;", "sounds flow;", "sounds 1;", "sounds 0;"}) {
            Due.frontFault(x, 0, "mouth a nest high 7 takes 3 holds 40;rain 2;" + law);
            x.minute();
            Due.due("sounds() by " + law, x.sounds(), law.equals("sounds not flow;") || law.equals("sounds 1;") ? 1 : 0);
        }
    }
}
