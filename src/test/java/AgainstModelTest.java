import java.lang.reflect.InvocationTargetException;
import java.lang.reflect.Method;
import java.lang.reflect.Modifier;
import java.util.ArrayList;
import java.util.List;
import java.util.Random;

/** Plays long runs of drawn calls on StoneReaders and on the Model, which must answer alike. */
public final class AgainstModelTest {
    private static final int RUNS = 1500;
    private static final int CALLS = 512;
    private static final String[] KINDS = {"plain", "wide", "slow", "nest"};
    private static final String[] NAMES = {"a", "b", "ga", "flow", "wet", "tall", "stands", "longname",
        "c", "dd", "eee", "x", "z", "qu", "plains", "ofo"};
    private static final String[] ODD_TOKENS = {"mouth", "of", ";", "(", ")", "<", "=", "+", "-", "*",
        "0", "1", "12", "9999", "00001", "verylongw", "not", "and", "or", "flow", "wet", "rain",
        "sounds", "minute", "pour", "stop", "clear", "!", "A", "gutter", "letter", "plain", "nest",
        "a", "x", "10", "21", "41"};

    private final Random random;
    private final StoneReaders real = new StoneReaders();
    private final Model model = new Model();
    private final List<Method> methods = new ArrayList<>();
    private final StringBuilder log = new StringBuilder();
    private List<String> mouthNames = new ArrayList<>();
    private List<String> letterNames = new ArrayList<>();
    private int calls;
    private boolean same = true;

    private AgainstModelTest(long seed) {
        random = new Random(seed);
        for (Method m : StoneReaders.class.getDeclaredMethods()) {
            if (Modifier.isPublic(m.getModifiers())) {
                methods.add(m);
            }
        }
        // The order in which a class tells its methods is not fixed.
        methods.sort((one, two) -> one.getName().compareTo(two.getName()));
    }

    public static void main(String[] args) throws Exception {
        int runs = args.length > 0 ? Integer.parseInt(args[0]) : RUNS;
        long from = args.length > 1 ? Long.parseLong(args[1]) : 0;
        int wrong = 0;
        for (int i = 0; i < runs && wrong < 3; i++) {
            AgainstModelTest test = new AgainstModelTest(from + i);
            test.play();
            if (!test.same) {
                wrong++;
                System.out.println("run " + (from + i) + "\n" + test.log);
            }
        }
        System.out.println(wrong == 0 ? "both answer alike" : "the answers differ");
        if (wrong != 0) {
            System.exit(1);
        }
    }

    private int below(int n) {
        return random.nextInt(n);
    }

    private boolean odds(int percent) {
        return below(100) < percent;
    }

    private void play() throws Exception {
        while (same && calls < CALLS) {
            if (calls == 0 && !odds(5) || below(150) == 0) {
                tellFront();
            } else if (below(60) == 0 || calls < 40 && odds(10)) {
                tell(dayText());
                call("day");
            } else if (below(40) == 0 || calls < 40 && odds(10)) {
                tell(wordText());
                call("word");
            } else {
                callAny();
            }
        }
    }

    private void tellFront() throws Exception {
        mouthNames = new ArrayList<>();
        letterNames = new ArrayList<>();
        tell(spoilt(frontText()));
        call("front");
    }

    private void callAny() throws Exception {
        String[] often = {"minute", "minute", "pour", "stop", "clear", "undo", "see"};
        Method m = methods.get(below(methods.size()));
        String name = odds(25) ? often[below(often.length)] : m.getName();
        if (name.equals("feed")) {
            call("feed", odds(50) ? random.nextLong() : 0L, odds(50) ? 0x0a20007f80ff7e1fL : 0L, 0L);
            call(odds(50) ? "word" : "day");
            return;
        }
        if (name.equals("front") && !odds(10)) {
            return;
        }
        for (Method each : methods) {
            if (each.getName().equals(name)) {
                call(name, drawnArguments(each));
            }
        }
    }

    private Object[] drawnArguments(Method m) {
        Class<?>[] types = m.getParameterTypes();
        Object[] all = new Object[types.length];
        for (int i = 0; i < all.length; i++) {
            all[i] = types[i] == boolean.class ? (Object) random.nextBoolean() : (Object) number(m.getName(), i);
        }
        return all;
    }

    private int number(String name, int i) {
        if (odds(2)) {
            int[] far = {Integer.MIN_VALUE, Integer.MAX_VALUE, -3, 100, 1 << 16, -1, 32, 64};
            return far[below(far.length)];
        }
        switch (name + i) {
            case "slate0":
                return below(43) - 1;
            case "pour1":
                return below(22);
            case "later1": case "reads0": case "spill0": case "great0": case "twins0":
                return odds(50) ? below(8) : below(62);
            case "chance2":
                return below(12);
            case "rests0": case "rests1": case "rests2":
                return odds(3) ? below(13) - 1 : below(10);
            case "rests3":
                return below(5) - 1;
            case "days0":
                return odds(3) ? 10000 : below(10000);
            case "days1":
                return below(101);
            case "days2": case "judged0":
                return odds(5) ? 3 : below(3);
            case "count0":
                return below(15) - 1;
            case "mouth1":
                return below(9);
            case "aim1":
                return odds(5) ? 2 : below(2);
            case "mark0":
                return odds(5) ? 4 : below(4);
            default:
                return odds(5) ? below(10) - 1 : below(7);
        }
    }

    private void tell(String text) throws Exception {
        for (int at = 0; at < text.length(); at += 24) {
            long[] parts = new long[3];
            for (int i = 0; i < 24; i++) {
                long sign = at + i < text.length() ? text.charAt(at + i) : 0;
                parts[i / 8] = parts[i / 8] << 8 | sign;
            }
            call("feed", parts[0], parts[1], parts[2]);
        }
    }

    private void call(String name, Object... arguments) throws Exception {
        if (!same || calls >= CALLS) {
            return;
        }
        calls++;
        Object got = answer(real, name, arguments);
        Object want = answer(model, name, arguments);
        log.append(name).append(java.util.Arrays.toString(arguments)).append(" -> ").append(got);
        if (!got.equals(want)) {
            same = false;
            log.append(", due is ").append(want);
        }
        log.append('\n');
    }

    private static Object answer(Object on, String name, Object[] arguments) throws Exception {
        for (Method m : on.getClass().getDeclaredMethods()) {
            if (m.getName().equals(name) && Modifier.isPublic(m.getModifiers())) {
                try {
                    return m.invoke(on, arguments);
                } catch (InvocationTargetException e) {
                    return e.getCause().getClass().getName();
                }
            }
        }
        throw new IllegalStateException(name);
    }

    private String blank() {
        return odds(5) ? "\n " : " ";
    }

    private String newName() {
        String name;
        do {
            name = NAMES[below(NAMES.length)];
        } while (mouthNames.contains(name) || letterNames.contains(name));
        return name;
    }

    private String frontText() {
        StringBuilder text = new StringBuilder();
        int mouths = odds(5) ? below(9) : 2 + below(6);
        int[] high = new int[mouths];
        int wettest = odds(30) ? 10 : 4;
        for (int i = 0; i < mouths; i++) {
            String name = newName();
            mouthNames.add(name);
            high[i] = 1 + below(20);
            text.append("mouth").append(blank()).append(name).append(' ').append(KINDS[below(4)])
                    .append(" high ").append(high[i]).append(" takes ").append(below(wettest))
                    .append(" holds ").append(odds(20) ? below(41) : below(12)).append(';');
        }
        for (int i = 0; i < mouths; i++) {
            int to = below(mouths);
            if (high[to] < high[i] && odds(90) || odds(1)) {
                text.append("gutter ").append(mouthNames.get(i)).append(blank())
                        .append(mouthNames.get(to)).append(';');
            }
        }
        if (odds(85)) {
            int rains = odds(3) ? 13 : 1 + below(12);
            text.append("rain");
            for (int i = 0; i < rains; i++) {
                text.append(' ').append(odds(40) ? 0 : odds(1) ? 10 : below(wettest));
            }
            text.append(';');
        }
        if (odds(50)) {
            text.append("sounds ").append(lawText(odds(5) ? 6 : 3)).append(';');
        }
        return text.append(lettersText(text.toString(), mouths)).toString();
    }

    /** LETTERS of what sounds indeed, in the main, so that some are read. */
    private String lettersText(String front, int mouths) {
        Model trial = new Model();
        for (int at = 0; at < front.length(); at++) {
            trial.feed((long) front.charAt(at) << 56, 0, 0);
        }
        StringBuilder text = new StringBuilder();
        int letters = mouths == 0 ? 0 : odds(3) ? 7 : 1 + below(6);
        if (trial.front() != 0) {
            letters = Math.min(letters, 2);
        }
        List<Integer> sets = new ArrayList<>();
        for (int i = 0; i < letters; i++) {
            trial.minute();
            if (odds(20)) {
                trial.clear(below(mouths));
            }
            int set = odds(80) ? trial.sounds() : below(1 << mouths);
            if (set == 0 || sets.contains(set) && !odds(2)) {
                continue;
            }
            sets.add(set);
            String name = newName();
            letterNames.add(name);
            text.append("letter ").append(name).append(" of");
            for (int m = 0; m < mouths; m++) {
                if ((set >> m & 1) != 0) {
                    text.append(blank()).append(mouthNames.get(m));
                }
            }
            text.append(';');
        }
        return text.toString();
    }

    private String lawText(int depth) {
        int kind = below(depth > 0 ? 12 : 4);
        switch (kind) {
            case 0: case 1:
                return "flow";
            case 2:
                return odds(50) ? "stands" : "tall";
            case 3:
                return odds(50) ? "wet" : "" + (odds(80) ? below(8) : below(10000));
            case 4:
                return "(" + lawText(depth - 1) + ")";
            case 5:
                return "not " + (odds(50) ? "(" + lawText(depth - 1) + ")" : "flow");
            default:
                String[] joins = {"+", "-", "*", "<", "=", " and ", " or "};
                return lawText(depth - 1) + joins[below(7)] + lawText(depth - 1);
        }
    }

    private String anyMouth() {
        return mouthNames.isEmpty() || odds(1) ? NAMES[below(NAMES.length)]
                : mouthNames.get(below(mouthNames.size()));
    }

    private String dayText() {
        StringBuilder text = new StringBuilder();
        int lines = odds(5) ? 39 + below(3) : below(20);
        for (int i = 0; i < lines; i++) {
            switch (below(5)) {
                case 0:
                    text.append("pour ").append(anyMouth()).append(' ').append(odds(1) ? 21 : 1 + below(20));
                    break;
                case 1:
                    text.append("stop ").append(anyMouth());
                    break;
                case 2:
                    text.append("clear ").append(anyMouth());
                    break;
                default:
                    text.append("minute");
            }
            text.append(';').append(odds(20) ? blank() : "");
        }
        return spoilt(text.toString());
    }

    private String wordText() {
        StringBuilder text = new StringBuilder();
        int letters = odds(10) ? 6 + below(3) : 1 + below(3);
        for (int i = 0; i < letters; i++) {
            text.append(letterNames.isEmpty() || odds(2) ? anyMouth()
                    : letterNames.get(below(letterNames.size()))).append(blank());
        }
        return spoilt(text.toString());
    }

    /** Once in a while a token is put in, or a sign is taken away. */
    private String spoilt(String text) {
        if (!odds(20) || text.isEmpty()) {
            return text;
        }
        int at = below(text.length());
        if (odds(40)) {
            return text.substring(0, at) + text.substring(at + 1);
        }
        if (odds(30)) {
            return text.substring(0, at) + text.substring(below(at + 1));
        }
        while (at > 0 && text.charAt(at) != ' ' && text.charAt(at) != ';') {
            at--;
        }
        return text.substring(0, at) + " " + ODD_TOKENS[below(ODD_TOKENS.length)] + " " + text.substring(at);
    }
}
