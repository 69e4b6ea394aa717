import java.math.BigInteger;
import java.nio.ByteBuffer;
import java.util.ArrayDeque;
import java.util.ArrayList;
import java.util.Arrays;
import java.util.Collections;
import java.util.Comparator;
import java.util.Deque;
import java.util.HashMap;
import java.util.List;
import java.util.Map;
import java.util.NoSuchElementException;
import java.util.Set;
import java.util.TreeSet;
import java.util.regex.Matcher;
import java.util.regex.Pattern;

/**
 * The document once more, written from its words alone and with all of Java's library, slow and
 * plain: AgainstModelTest plays the same calls on this and on StoneReaders.
 */
public final class Model {
    private static final Set<String> KINDS = Set.of("plain", "wide", "slow", "nest");
    private static final Set<String> RESERVED = Set.of("mouth", "high", "takes", "holds", "gutter",
            "letter", "of", "rain", "sounds", "minute", "pour", "stop", "clear", "plain", "wide",
            "slow", "nest", "not", "and", "or");
    private static final Pattern TOKEN = Pattern.compile("[a-z]+|[0-9]+|[^ \n]");

    private interface Law {
        int of(int flow, int stands, int tall, int wet);
    }

    private static final class Fault extends Exception {
        private static final long serialVersionUID = 1L;
        final int code;

        Fault(int kind, int place) {
            super(null, null, false, false);
            code = kind + 16 * place;
        }
    }

    private record Token(String text, int place) {
        boolean isWord() {
            return text.matches("[a-z]{1,8}");
        }

        boolean isName() {
            return isWord() && !RESERVED.contains(text);
        }

        boolean isNumber() {
            return text.matches("[0-9]{1,4}");
        }
    }

    private static final class Tokens {
        final List<Token> all = new ArrayList<>();
        int at;

        Tokens(String text) {
            Matcher m = TOKEN.matcher(text);
            while (m.find()) {
                all.add(new Token(m.group(), m.start()));
            }
            all.add(new Token("", text.length()));
        }

        Token here() {
            return all.get(at);
        }

        boolean is(String text) {
            return here().text().equals(text);
        }

        Fault fault(int kind) {
            return new Fault(kind, here().place());
        }

        Token take(boolean fits) throws Fault {
            if (!fits) {
                throw fault(1);
            }
            return all.get(at++);
        }

        void take(String text) throws Fault {
            take(is(text));
        }

        int number(int least, int most) throws Fault {
            int n = Integer.parseInt(take(here().isNumber()).text());
            if (n < least || n > most) {
                at--;
                throw fault(4);
            }
            return n;
        }
    }

    private static final class Mouth {
        String name;
        String kind;
        int high;
        int takes;
        int holds;
        int gutter = -1;
    }

    private static final class Letter {
        String name;
        Set<Integer> of = new TreeSet<>();
    }

    private static final class Told {
        final List<Mouth> mouths = new ArrayList<>();
        final List<Letter> letters = new ArrayList<>();
        List<Integer> rain;
        Law law;

        int mouthOf(String name) {
            for (int i = 0; i < mouths.size(); i++) {
                if (mouths.get(i).name.equals(name)) {
                    return i;
                }
            }
            return -1;
        }

        int letterOf(String name) {
            for (int i = 0; i < letters.size(); i++) {
                if (letters.get(i).name.equals(name)) {
                    return i;
                }
            }
            return -1;
        }
    }

    private static final class State {
        int minute;
        int[] water = new int[7];
        int[] flow = new int[7];
        Set<Integer> stopped = new TreeSet<>();
        Set<Integer> sounded = new TreeSet<>();
        int last = -1;
        List<Integer> slate = new ArrayList<>();
        Set<Integer> over = new TreeSet<>();
        int path;

        State copy() {
            State s = new State();
            s.minute = minute;
            s.water = water.clone();
            s.flow = flow.clone();
            s.stopped = new TreeSet<>(stopped);
            s.sounded = new TreeSet<>(sounded);
            s.last = last;
            s.slate = new ArrayList<>(slate);
            return s;
        }
    }

    private record Line(String act, int mouth, int water) {
    }

    private record Sight(int mouth, boolean sounds) {
    }

    private record Kept(State state, List<Line> day, List<Integer> word, List<Sight> seen) {
    }

    private String tape = "";
    private Told told = new Told();
    private State now = new State();
    private List<Line> day = List.of();
    private List<Integer> word = List.of();
    private List<Sight> seen = List.of();
    private final Deque<State> undos = new ArrayDeque<>();
    private final Map<Integer, Kept> marks = new HashMap<>();

    public int feed(long a, long b, long c) {
        StringBuilder all = new StringBuilder(tape);
        for (long part : new long[] {a, b, c}) {
            for (byte sign : ByteBuffer.allocate(8).putLong(part).array()) {
                if ((sign == 10 || sign >= 32 && sign < 127) && all.length() < 1000) {
                    all.append((char) sign);
                }
            }
        }
        tape = all.toString();
        return tape.length();
    }

    private Tokens taken() {
        Tokens tokens = new Tokens(tape);
        tape = "";
        return tokens;
    }

    public int front() {
        Told next = new Told();
        try {
            Tokens t = taken();
            while (!t.is("")) {
                frontLine(t, next);
                t.take(";");
            }
        } catch (Fault f) {
            return f.code;
        }
        told = next;
        now = atFirst();
        day = List.of();
        word = List.of();
        seen = List.of();
        undos.clear();
        marks.clear();
        return 0;
    }

    private State atFirst() {
        State s = new State();
        for (int i = 0; i < told.mouths.size(); i++) {
            if (told.mouths.get(i).kind.equals("nest")) {
                s.stopped.add(i);
            }
        }
        return s;
    }

    private static void frontLine(Tokens t, Told f) throws Fault {
        switch (t.here().text()) {
            case "mouth" -> mouthLine(t, f);
            case "gutter" -> gutterLine(t, f);
            case "letter" -> letterLine(t, f);
            case "rain" -> rainLine(t, f);
            case "sounds" -> {
                if (f.law != null) {
                    throw t.fault(3);
                }
                t.at++;
                f.law = anE(t, 0);
            }
            default -> throw t.fault(1);
        }
    }

    private static String newName(Tokens t, Told f) throws Fault {
        String name = t.take(t.here().isName()).text();
        if (f.mouthOf(name) >= 0 || f.letterOf(name) >= 0) {
            t.at--;
            throw t.fault(3);
        }
        return name;
    }

    private static int knownMouth(Tokens t, Told f) throws Fault {
        String name = t.take(t.here().isName()).text();
        if (f.mouthOf(name) < 0) {
            t.at--;
            throw t.fault(2);
        }
        return f.mouthOf(name);
    }

    private static void mouthLine(Tokens t, Told f) throws Fault {
        if (f.mouths.size() == 7) {
            throw t.fault(5);
        }
        t.at++;
        Mouth m = new Mouth();
        m.name = newName(t, f);
        m.kind = t.take(KINDS.contains(t.here().text())).text();
        t.take("high");
        m.high = t.number(1, 20);
        t.take("takes");
        m.takes = t.number(0, 9);
        t.take("holds");
        m.holds = t.number(0, 40);
        f.mouths.add(m);
    }

    private static void gutterLine(Tokens t, Told f) throws Fault {
        t.at++;
        Mouth from = f.mouths.get(knownMouth(t, f));
        if (from.gutter >= 0) {
            t.at--;
            throw t.fault(3);
        }
        int to = knownMouth(t, f);
        if (f.mouths.get(to).high >= from.high) {
            t.at--;
            throw t.fault(3);
        }
        from.gutter = to;
    }

    private static void letterLine(Tokens t, Told f) throws Fault {
        if (f.letters.size() == 6) {
            throw t.fault(5);
        }
        t.at++;
        Letter l = new Letter();
        l.name = newName(t, f);
        t.take("of");
        do {
            if (!l.of.add(knownMouth(t, f))) {
                t.at--;
                throw t.fault(3);
            }
        } while (!t.is(";"));
        for (Letter other : f.letters) {
            if (other.of.equals(l.of)) {
                throw t.fault(3);
            }
        }
        f.letters.add(l);
    }

    private static void rainLine(Tokens t, Told f) throws Fault {
        if (f.rain != null) {
            throw t.fault(3);
        }
        t.at++;
        f.rain = new ArrayList<>();
        do {
            f.rain.add(t.number(0, 9));
            if (f.rain.size() == 13) {
                t.at--;
                throw t.fault(5);
            }
        } while (!t.is(";"));
    }

    private static int truth(boolean b) {
        return b ? 1 : 0;
    }

    private static Law anE(Tokens t, int within) throws Fault {
        Law left = aTest(t, within);
        while (t.is("and") || t.is("or")) {
            boolean and = t.is("and");
            t.at++;
            Law one = left;
            Law two = aTest(t, within);
            left = (f, s, h, w) -> {
                boolean a = one.of(f, s, h, w) != 0;
                boolean b = two.of(f, s, h, w) != 0;
                return truth(and ? a && b : a || b);
            };
        }
        return left;
    }

    private static Law aTest(Tokens t, int within) throws Fault {
        Law one = aSum(t, within);
        if (t.is("<")) {
            t.at++;
            Law two = aSum(t, within);
            return (f, s, h, w) -> truth(one.of(f, s, h, w) < two.of(f, s, h, w));
        }
        if (t.is("=")) {
            t.at++;
            Law two = aSum(t, within);
            return (f, s, h, w) -> truth(one.of(f, s, h, w) == two.of(f, s, h, w));
        }
        return one;
    }

    private static Law aSum(Tokens t, int within) throws Fault {
        Law left = aProduct(t, within);
        while (t.is("+") || t.is("-")) {
            int sign = t.is("+") ? 1 : -1;
            t.at++;
            Law one = left;
            Law two = aProduct(t, within);
            left = (f, s, h, w) -> one.of(f, s, h, w) + sign * two.of(f, s, h, w);
        }
        return left;
    }

    private static Law aProduct(Tokens t, int within) throws Fault {
        Law left = aPart(t, within);
        while (t.is("*")) {
            t.at++;
            Law one = left;
            Law two = aPart(t, within);
            left = (f, s, h, w) -> one.of(f, s, h, w) * two.of(f, s, h, w);
        }
        return left;
    }

    private static Law aPart(Tokens t, int within) throws Fault {
        Token here = t.take(t.here().isNumber()
                || Set.of("flow", "stands", "tall", "wet", "not", "(").contains(t.here().text()));
        if (within == 5) {
            t.at--;
            throw t.fault(5);
        }
        switch (here.text()) {
            case "flow":
                return (f, s, h, w) -> f;
            case "stands":
                return (f, s, h, w) -> s;
            case "tall":
                return (f, s, h, w) -> h;
            case "wet":
                return (f, s, h, w) -> w;
            case "not":
                Law part = aPart(t, within + 1);
                return (f, s, h, w) -> truth(part.of(f, s, h, w) == 0);
            case "(":
                Law e = anE(t, within + 1);
                t.take(")");
                return e;
            default:
                int n = Integer.parseInt(here.text());
                return (f, s, h, w) -> n;
        }
    }

    public int day() {
        List<Line> lines = new ArrayList<>();
        try {
            Tokens t = taken();
            while (!t.is("")) {
                String act = t.here().text();
                if (!Set.of("minute", "pour", "stop", "clear").contains(act)) {
                    throw t.fault(1);
                }
                if (lines.size() == 40) {
                    throw t.fault(5);
                }
                t.at++;
                int mouth = act.equals("minute") ? -1 : knownMouth(t, told);
                int water = act.equals("pour") ? t.number(1, 20) : 0;
                t.take(";");
                lines.add(new Line(act, mouth, water));
            }
        } catch (Fault f) {
            return f.code;
        }
        day = lines;
        return 0;
    }

    public int word() {
        List<Integer> letters = new ArrayList<>();
        try {
            Tokens t = taken();
            do {
                int letter = told.letterOf(t.take(t.here().isName()).text());
                if (letter < 0 || letters.size() == 7) {
                    t.at--;
                    throw t.fault(letter < 0 ? 2 : 5);
                }
                letters.add(letter);
            } while (!t.is(""));
        } catch (Fault f) {
            return f.code;
        }
        word = letters;
        return 0;
    }

    private int rainAt(int minute) {
        return told.rain == null ? 0 : told.rain.get(minute % told.rain.size());
    }

    private int pass(State s) {
        return pass(s, rainAt(s.minute));
    }

    private int pass(State s, int rain) {
        int n = told.mouths.size();
        List<Integer> byHeight = new ArrayList<>();
        for (int i = 0; i < n; i++) {
            byHeight.add(i);
            s.water[i] += rain * told.mouths.get(i).takes;
        }
        byHeight.sort(Comparator.comparingInt(i -> -told.mouths.get(i).high));
        s.over = new TreeSet<>();
        s.path = 0;
        for (int i : byHeight) {
            Mouth m = told.mouths.get(i);
            if (s.water[i] > m.holds) {
                int more = s.water[i] - m.holds;
                s.water[i] = m.holds;
                s.over.add(i);
                if (m.gutter < 0) {
                    s.path += more;
                } else {
                    s.water[m.gutter] += more;
                }
            }
            int most = switch (m.kind) {
                case "wide" -> 6;
                case "slow" -> 1;
                default -> 3;
            };
            s.flow[i] = s.stopped.contains(i) ? 0 : Math.min(most, s.water[i]);
            s.water[i] -= s.flow[i];
        }
        s.sounded = new TreeSet<>();
        for (int i = 0; i < n; i++) {
            int high = told.mouths.get(i).high;
            int value = told.law == null ? s.flow[i]
                    : told.law.of(s.flow[i], s.water[i], high, rain);
            if (value != 0) {
                s.sounded.add(i);
            }
        }
        s.last = s.sounded.isEmpty() ? -1 : 6;
        for (int i = 0; i < told.letters.size(); i++) {
            if (told.letters.get(i).of.equals(s.sounded)) {
                s.last = i;
            }
        }
        if (s.last >= 0 && s.slate.size() < 40) {
            s.slate.add(s.last);
        }
        s.minute++;
        return s.last;
    }

    private boolean noMouth(int mouth) {
        return mouth < 0 || mouth >= told.mouths.size();
    }

    private boolean noLetter(int letter) {
        return letter < 0 || letter >= told.letters.size();
    }

    private static int bits(Set<Integer> set) {
        return set.stream().mapToInt(i -> 1 << i).sum();
    }

    public int mouth(int mouth, int what) {
        if (noMouth(mouth)) {
            return -2;
        }
        Mouth m = told.mouths.get(mouth);
        return switch (what) {
            case 0 -> List.of("plain", "wide", "slow", "nest").indexOf(m.kind);
            case 1 -> m.high;
            case 2 -> m.takes;
            case 3 -> m.holds;
            case 4 -> m.gutter;
            case 5 -> now.water[mouth];
            case 6 -> truth(now.stopped.contains(mouth));
            case 7 -> now.flow[mouth];
            default -> -2;
        };
    }

    public int letter(int letter) {
        return noLetter(letter) ? -1 : bits(told.letters.get(letter).of);
    }

    public int slate(int i) {
        return i < 0 || i >= now.slate.size() ? -1 : now.slate.get(i);
    }

    private void keep() {
        undos.addLast(now.copy());
        if (undos.size() > 16) {
            undos.removeFirst();
        }
    }

    public int minute() {
        keep();
        return pass(now);
    }

    public int pour(int mouth, int water) {
        if (noMouth(mouth) || water < 1 || water > 20) {
            return -1;
        }
        keep();
        return put(now, mouth, water);
    }

    private static int put(State s, int mouth, int water) {
        return s.water[mouth] = Math.min(99, s.water[mouth] + water);
    }

    public boolean stop(int mouth) {
        if (noMouth(mouth) || now.stopped.contains(mouth)) {
            return false;
        }
        keep();
        return now.stopped.add(mouth);
    }

    public boolean clear(int mouth) {
        if (noMouth(mouth) || !now.stopped.contains(mouth)) {
            return false;
        }
        keep();
        return now.stopped.remove(mouth);
    }

    public boolean undo() {
        if (undos.isEmpty()) {
            return false;
        }
        now = undos.removeLast();
        return true;
    }

    public int judged(int what) {
        State s = atFirst();
        List<Integer> refused = new ArrayList<>();
        List<Integer> reading = new ArrayList<>();
        for (int i = 0; i < day.size(); i++) {
            Line line = day.get(i);
            boolean can = true;
            switch (line.act()) {
                case "minute" -> {
                    int read = pass(s);
                    if (read >= 0 && read < 6) {
                        reading.add(i);
                    }
                }
                case "pour" -> put(s, line.mouth(), line.water());
                case "stop" -> can = s.stopped.add(line.mouth());
                default -> can = s.stopped.remove(line.mouth());
            }
            if (!can) {
                refused.add(i);
            }
        }
        return switch (what) {
            case 0 -> refused.isEmpty() ? -1 : refused.get(0);
            case 1 -> reading.isEmpty() ? -1 : reading.get(0);
            case 2 -> Collections.frequency(s.slate, 6);
            default -> -2;
        };
    }

    /** The states behind 0 to so many MINUTES. */
    private List<State> ahead(int minutes) {
        List<State> all = new ArrayList<>();
        State s = now.copy();
        for (int i = 0; i <= minutes; i++) {
            State here = s.copy();
            here.over = s.over;
            here.path = s.path;
            all.add(here);
            pass(s);
        }
        return all;
    }

    private static boolean wrong(int minutes, int least) {
        return minutes < least || minutes > 60;
    }

    public int later(int mouth, int minutes) {
        return noMouth(mouth) || wrong(minutes, 0) ? -1 : ahead(minutes).get(minutes).water[mouth];
    }

    public int reads(int minutes) {
        return wrong(minutes, 1) ? -2 : ahead(minutes).get(minutes).last;
    }

    public int when(int letter) {
        if (noLetter(letter)) {
            return -1;
        }
        List<State> all = ahead(60);
        for (int i = 1; i <= 60; i++) {
            if (all.get(i).last == letter) {
                return i;
            }
        }
        return -1;
    }

    public int dry() {
        List<State> all = ahead(60);
        for (int i = 0; i <= 60; i++) {
            if (Arrays.stream(all.get(i).water).sum() == 0) {
                return i;
            }
        }
        return -1;
    }

    public int spill(int minutes) {
        if (wrong(minutes, 1)) {
            return -1;
        }
        return ahead(minutes).stream().skip(1).mapToInt(s -> s.path).sum();
    }

    public int over(int mouth) {
        List<State> all = ahead(60);
        for (int i = 1; i <= 60 && !noMouth(mouth); i++) {
            if (all.get(i).over.contains(mouth)) {
                return i;
            }
        }
        return -1;
    }

    public int first() {
        int best = -1;
        int soonest = 61;
        for (int i = 0; i < told.mouths.size(); i++) {
            int o = over(i);
            if (o > 0 && o < soonest) {
                soonest = o;
                best = i;
            }
        }
        return best;
    }

    public int great(int minutes) {
        if (wrong(minutes, 1)) {
            return -1;
        }
        int best = -1;
        int most = -1;
        List<State> all = ahead(minutes);
        for (int i = 0; i < told.mouths.size(); i++) {
            int mouth = i;
            int sum = all.stream().skip(1).mapToInt(s -> s.flow[mouth]).sum();
            if (sum > most) {
                most = sum;
                best = i;
            }
        }
        return best;
    }

    public int twins(int minutes) {
        if (wrong(minutes, 1)) {
            return -1;
        }
        int pairs = 0;
        List<State> all = ahead(minutes);
        for (int i = 0; i < told.mouths.size(); i++) {
            for (int j = 0; j < i; j++) {
                int a = i;
                int b = j;
                pairs += truth(all.stream().skip(1).allMatch(s -> s.flow[a] == s.flow[b]));
            }
        }
        return pairs;
    }

    private Set<Integer> under(int mouth) {
        int next = told.mouths.get(mouth).gutter;
        if (next < 0) {
            return new TreeSet<>();
        }
        Set<Integer> all = under(next);
        all.add(next);
        return all;
    }

    public int down(int mouth) {
        return noMouth(mouth) ? -1 : bits(under(mouth));
    }

    public int up(int mouth) {
        if (noMouth(mouth)) {
            return -1;
        }
        Set<Integer> all = new TreeSet<>();
        for (int i = 0; i < told.mouths.size(); i++) {
            if (under(i).contains(mouth)) {
                all.add(i);
            }
        }
        return bits(all);
    }

    public int chain() {
        int most = 0;
        for (int i = 0; i < told.mouths.size(); i++) {
            most = Math.max(most, under(i).size() + 1);
        }
        return most;
    }

    public int sounds() {
        return bits(now.sounded);
    }

    public int last() {
        return now.last;
    }

    public int often() {
        int best = -1;
        int most = 0;
        for (int i = 0; i < 6; i++) {
            int times = Collections.frequency(now.slate, i);
            if (times > most) {
                most = times;
                best = i;
            }
        }
        return best;
    }

    public int run() {
        int most = 0;
        for (int letter = 0; letter < 6; letter++) {
            for (int from = 0; from < now.slate.size(); from++) {
                int to = from;
                while (to < now.slate.size() && now.slate.get(to) == letter) {
                    to++;
                }
                most = Math.max(most, to - from);
            }
        }
        return most;
    }

    public int stands() {
        return word.isEmpty() ? -1 : Collections.indexOfSubList(now.slate, word);
    }

    public int maybe() {
        if (word.isEmpty()) {
            return -1;
        }
        int places = 0;
        for (int i = 0; i + word.size() <= now.slate.size(); i++) {
            List<Integer> part = new ArrayList<>(now.slate.subList(i, i + word.size()));
            for (int j = 0; j < part.size(); j++) {
                if (part.get(j) == 6) {
                    part.set(j, word.get(j));
                }
            }
            places += truth(part.equals(word));
        }
        return places;
    }

    public int entire() {
        List<State> all = ahead(60);
        for (int i = 0; i <= 60 && !word.isEmpty(); i++) {
            if (Collections.indexOfSubList(all.get(i).slate, word) >= 0) {
                return i;
            }
        }
        return -1;
    }

    public int aim(int letter, int what) {
        if (noLetter(letter) || what != 0 && what != 1) {
            return -2;
        }
        if (pass(now.copy()) == letter) {
            return what == 0 ? 0 : -1;
        }
        for (int water = 1; water <= 20; water++) {
            for (int mouth = 0; mouth < told.mouths.size(); mouth++) {
                State s = now.copy();
                put(s, mouth, water);
                if (pass(s) == letter) {
                    return what == 0 ? water : mouth;
                }
            }
        }
        return -2;
    }

    public int hush(int letter) {
        int best = -1;
        for (int set = 0; set < 1 << told.mouths.size() && !noLetter(letter); set++) {
            State s = now.copy();
            for (int i = 0; i < 7; i++) {
                if ((set & 1 << i) != 0 && !s.stopped.remove(i)) {
                    s.stopped.add(i);
                }
            }
            boolean fewer = best < 0 || Integer.bitCount(set) < Integer.bitCount(best);
            if (pass(s) == letter && fewer) {
                best = set;
            }
        }
        return best;
    }

    public boolean see(int mouth, boolean sounds) {
        if (noMouth(mouth) || seen.size() == 8) {
            return false;
        }
        List<Sight> more = new ArrayList<>(seen);
        more.add(new Sight(mouth, sounds));
        seen = more;
        return true;
    }

    private Set<Integer> soundedIn(int rain) {
        State s = now.copy();
        pass(s, rain);
        return s.sounded;
    }

    private Set<Integer> possible() {
        Set<Integer> all = new TreeSet<>();
        for (int rain = 0; rain <= 9; rain++) {
            Set<Integer> sounded = soundedIn(rain);
            if (seen.stream().allMatch(e -> e.sounds() == sounded.contains(e.mouth()))) {
                all.add(rain);
            }
        }
        return all;
    }

    public int rains() {
        return bits(possible());
    }

    public int look() {
        Set<Integer> rains = possible();
        int best = -1;
        int least = rains.size();
        for (int i = 0; i < told.mouths.size(); i++) {
            int mouth = i;
            int yes = (int) rains.stream().filter(r -> soundedIn(r).contains(mouth)).count();
            int greater = Math.max(yes, rains.size() - yes);
            if (greater < least) {
                least = greater;
                best = i;
            }
        }
        return best;
    }

    public int chance(int letter, int minutes, int odds) {
        if (noLetter(letter) || minutes < 1 || minutes > 6 || odds < 0 || odds > 10) {
            return -1;
        }
        BigInteger parts = oddParts(now.copy(), letter, minutes, odds);
        return parts.multiply(BigInteger.valueOf(1000000)).divide(BigInteger.TEN.pow(minutes))
                .intValueExact();
    }

    private BigInteger oddParts(State s, int letter, int minutes, int odds) {
        if (minutes == 0) {
            return s.last == letter ? BigInteger.ONE : BigInteger.ZERO;
        }
        State wet = s.copy();
        pass(wet, 9);
        State dry = s.copy();
        pass(dry, 0);
        return oddParts(wet, letter, minutes - 1, odds).multiply(BigInteger.valueOf(odds))
                .add(oddParts(dry, letter, minutes - 1, odds)
                        .multiply(BigInteger.valueOf(10 - odds)));
    }

    public int rests(int lose, int pulls, int holds, int what) {
        for (int n : new int[] {lose, pulls, holds}) {
            if (n < 0 || n > 9) {
                throw new NoSuchElementException();
            }
        }
        // What he gets by his choice and the other one's.
        int[][] gets = {{0, holds}, {pulls, -lose}};
        List<Integer> all = new ArrayList<>();
        for (int a = 0; a < 2; a++) {
            for (int b = 0; b < 2; b++) {
                if (gets[1 - a][b] <= gets[a][b] && gets[1 - b][a] <= gets[b][a]) {
                    all.add(2 * a + b);
                }
            }
        }
        if (what == -1) {
            return all.size();
        }
        if (what < 0 || what >= all.size()) {
            throw new NoSuchElementException();
        }
        return all.get(what);
    }

    private BigInteger drawn;

    private int draw(int m) {
        drawn = drawn.multiply(BigInteger.valueOf(1103515245)).add(BigInteger.valueOf(12345))
                .mod(BigInteger.ONE.shiftLeft(31));
        return drawn.shiftRight(16).mod(BigInteger.valueOf(m)).intValueExact();
    }

    public int days(int seed, int minutes, int what) {
        if (seed < 0 || seed > 9999 || minutes < 1 || minutes > 99 || what < 0 || what > 2) {
            return -1;
        }
        drawn = BigInteger.valueOf(seed);
        State s = now.copy();
        int[] sums = new int[3];
        for (int i = 0; i < minutes; i++) {
            if (!told.mouths.isEmpty()) {
                int mouth = draw(told.mouths.size());
                switch (draw(5)) {
                    case 0 -> put(s, mouth, 1 + draw(9));
                    case 1 -> s.stopped.add(mouth);
                    case 2 -> s.stopped.remove(mouth);
                    default -> {
                    }
                }
            }
            int read = pass(s);
            sums[0] += truth(read >= 0 && read < 6);
            sums[1] += truth(read == 6);
        }
        sums[2] = Arrays.stream(s.water).sum();
        return sums[what];
    }

    public boolean mark(int mark, boolean back) {
        if (mark < 0 || mark > 3 || back && !marks.containsKey(mark)) {
            return false;
        }
        if (!back) {
            marks.put(mark, new Kept(now.copy(), day, word, seen));
            return true;
        }
        Kept kept = marks.get(mark);
        now = kept.state().copy();
        day = kept.day();
        word = kept.word();
        seen = kept.seen();
        undos.clear();
        return true;
    }

    public int count(int what) {
        return switch (what) {
            case 0 -> told.mouths.size();
            case 1 -> told.letters.size();
            case 2 -> now.minute;
            case 3 -> rainAt(now.minute);
            case 4 -> Arrays.stream(now.water).sum();
            case 5 -> bits(now.stopped);
            case 6 -> now.slate.size();
            case 7 -> Collections.frequency(now.slate, 6);
            case 8 -> day.size();
            case 9 -> word.size();
            case 10 -> seen.size();
            case 11 -> undos.size();
            case 12 -> tape.length();
            default -> -1;
        };
    }
}
