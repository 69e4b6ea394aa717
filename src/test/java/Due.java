import java.util.NoSuchElementException;

/** What the tests share: telling texts to an object, and noting answers that are not the due ones. */
final class Due {
    private static int wrong;
    private static String name = "";

    private Due() {
    }

    /** What is told ahead of each wrong answer from now on. */
    static void name(String newName) {
        name = newName;
    }

    static void wrong(String what) {
        wrong++;
        System.out.println(name + what);
    }

    static void due(String call, long got, long want) {
        if (got != want) {
            wrong(call + " answered " + got + ", due is " + want);
        }
    }

    static void due(String call, boolean got, boolean want) {
        due(call, got ? 1 : 0, want ? 1 : 0);
    }

    static void feed(StoneReaders x, String text) {
        for (int at = 0; at < text.length(); at += 24) {
            long[] parts = new long[3];
            for (int i = 0; i < 24; i++) {
                long sign = at + i < text.length() ? text.charAt(at + i) : 0;
                parts[i / 8] = parts[i / 8] << 8 | sign;
            }
            x.feed(parts[0], parts[1], parts[2]);
        }
    }

    static StoneReaders told(String front) {
        StoneReaders x = new StoneReaders();
        feed(x, front);
        due("front() of " + front, x.front(), 0);
        return x;
    }

    static void day(StoneReaders x, String text) {
        feed(x, text);
        due("day() of " + text, x.day(), 0);
    }

    static void word(StoneReaders x, String text) {
        feed(x, text);
        due("word() of " + text, x.word(), 0);
    }

    static void minutes(StoneReaders x, int minutes) {
        for (int i = 0; i < minutes; i++) {
            x.minute();
        }
    }

    /** A ^ stands ahead of the token that is wrong; kind 0: nothing is. */
    static void frontFault(StoneReaders x, int kind, String text) {
        feed(x, text.replace("^", ""));
        due("front() of " + text, x.front(), faultOf(kind, text));
    }

    static void dayFault(StoneReaders x, int kind, String text) {
        feed(x, text.replace("^", ""));
        due("day() of " + text, x.day(), faultOf(kind, text));
    }

    static void wordFault(StoneReaders x, int kind, String text) {
        feed(x, text.replace("^", ""));
        due("word() of " + text, x.word(), faultOf(kind, text));
    }

    private static long faultOf(int kind, String text) {
        if ((kind == 0) != (text.indexOf('^') < 0)) {
            throw new IllegalStateException("a test is wrong: " + text);
        }
        return kind == 0 ? 0 : kind + 16L * text.indexOf('^');
    }

    static void restsThrow(StoneReaders x, int lose, int pulls, int holds, int what) {
        boolean thrown = false;
        try {
            x.rests(lose, pulls, holds, what);
        } catch (NoSuchElementException e) {
            thrown = true;
        }
        due("rests(" + lose + ", " + pulls + ", " + holds + ", " + what + ") throws", thrown, true);
    }

    static void end() {
        if (wrong != 0) {
            System.out.println(wrong + " answers are not as due");
            System.exit(1);
        }
    }
}
