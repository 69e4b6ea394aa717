import java.util.NoSuchElementException;

/** A front of stone mouths that spout the rain, and those who read it off the path. */
public final class StoneReaders {
    public static final int NONE = -1;

    private static final int OTHERS = -2;
    private static final int HOLE = 6;

    private static final int MOST_MOUTHS = 7;
    private static final int MOST_LETTERS = 6;
    private static final int MOST_RAINS = 12;
    private static final int MOST_LINES = 40;
    private static final int MOST_IN_WORD = 7;
    private static final int MOST_ON_SLATE = 40;
    private static final int MOST_SEEN = 8;
    private static final int MOST_MARKS = 4;
    private static final int MOST_WATER = 99;
    private static final int MOST_POURED = 20;
    private static final int MOST_AHEAD = 60;
    private static final int MOST_ODD_MINUTES = 6;
    private static final int HEAVIEST_RAIN = 9;
    private static final int RAIN_KINDS = 10;
    /** A power of two, so that a mask keeps every place in the ring. */
    private static final int PAST_ROOM = 16;
    private static final int TAPE_ROOM = 1000;

    private final Tape tape;
    private final FrontReader frontReader;
    private final ListReader listReader;
    private Front told;
    private Front draft;
    private Day dayTold;
    private Day dayDraft;
    private Word wordTold;
    private Word wordDraft;
    private final Seen seen;
    private final Wall now;
    /** What is only thought of happens here, so that now stays as it is. */
    private final Wall trial;
    private final Wall[] past;
    private int pastNext;
    private int pastCount;
    private final Mark[] marks;
    /** Sums by MOUTH, or by LETTER, of which there are fewer. */
    private final int[] row;
    private long drawn;

    public StoneReaders() {
        tape = new Tape();
        frontReader = new FrontReader(tape);
        listReader = new ListReader(tape);
        told = new Front();
        draft = new Front();
        dayTold = new Day();
        dayDraft = new Day();
        wordTold = new Word();
        wordDraft = new Word();
        seen = new Seen();
        now = new Wall();
        trial = new Wall();
        past = new Wall[PAST_ROOM];
        for (int i = 0; i < PAST_ROOM; i++) {
            past[i] = new Wall();
        }
        marks = new Mark[MOST_MARKS];
        for (int i = 0; i < MOST_MARKS; i++) {
            marks[i] = new Mark();
        }
        row = new int[MOST_MOUTHS];
    }

    public int feed(long a, long b, long c) {
        tape.addBytes(a);
        tape.addBytes(b);
        tape.addBytes(c);
        return tape.size;
    }

    public int front() {
        int fault = frontReader.readFront(draft);
        if (fault == 0) {
            Front spare = told;
            told = draft;
            draft = spare;
            beginAnew();
        }
        return fault;
    }

    public int day() {
        int fault = listReader.readDay(told, dayDraft);
        if (fault == 0) {
            Day spare = dayTold;
            dayTold = dayDraft;
            dayDraft = spare;
        }
        return fault;
    }

    public int word() {
        int fault = listReader.readWord(told, wordDraft);
        if (fault == 0) {
            Word spare = wordTold;
            wordTold = wordDraft;
            wordDraft = spare;
        }
        return fault;
    }

    public int mouth(int mouth, int what) {
        if (!isMouth(mouth)) {
            return OTHERS;
        }
        switch (what) {
            case 0:
                return told.kind[mouth];
            case 1:
                return told.high[mouth];
            case 2:
                return told.takes[mouth];
            case 3:
                return told.holds[mouth];
            case 4:
                return told.gutter[mouth];
            case 5:
                return now.water[mouth];
            case 6:
                return now.isStopped(mouth) ? 1 : 0;
            case 7:
                return now.flow[mouth];
            default:
                return OTHERS;
        }
    }

    public int letter(int letter) {
        return isLetter(letter) ? told.letterMouths[letter] : NONE;
    }

    public int slate(int i) {
        return i >= 0 && i < now.slateSize ? now.slate[i] : NONE;
    }

    public int minute() {
        keepPast();
        return now.passMinute(told, told.rainOf(now.minute));
    }

    public int pour(int mouth, int water) {
        if (!isMouth(mouth) || water < 1 || water > MOST_POURED) {
            return NONE;
        }
        keepPast();
        now.addWater(mouth, water);
        return now.water[mouth];
    }

    public boolean stop(int mouth) {
        if (!isMouth(mouth) || now.isStopped(mouth)) {
            return false;
        }
        keepPast();
        return now.stopMouth(mouth);
    }

    public boolean clear(int mouth) {
        if (!isMouth(mouth) || !now.isStopped(mouth)) {
            return false;
        }
        keepPast();
        return now.clearMouth(mouth);
    }

    public boolean undo() {
        if (pastCount == 0) {
            return false;
        }
        pastNext = (pastNext - 1) & (PAST_ROOM - 1);
        pastCount--;
        now.copyFrom(past[pastNext]);
        return true;
    }

    public int judged(int what) {
        if (what < 0 || what > 2) {
            return OTHERS;
        }
        int refused = NONE;
        int read = NONE;
        trial.begin(told);
        for (int line = 0; line < dayTold.size; line++) {
            int answer = doLine(line);
            if (answer == OTHERS && refused == NONE) {
                refused = line;
            }
            if (answer >= 0 && answer != HOLE && read == NONE) {
                read = line;
            }
        }
        if (what == 2) {
            return trial.signsLike(HOLE);
        }
        return what == 0 ? refused : read;
    }

    public int later(int mouth, int minutes) {
        if (!isMouth(mouth) || minutes < 0 || minutes > MOST_AHEAD) {
            return NONE;
        }
        trial.copyFrom(now);
        for (int i = 0; i < minutes; i++) {
            passTrialMinute();
        }
        return trial.water[mouth];
    }

    public int reads(int minutes) {
        if (!isAhead(minutes)) {
            return OTHERS;
        }
        trial.copyFrom(now);
        for (int i = 0; i < minutes; i++) {
            passTrialMinute();
        }
        return trial.lastRead;
    }

    public int when(int letter) {
        if (!isLetter(letter)) {
            return NONE;
        }
        trial.copyFrom(now);
        for (int i = 1; i <= MOST_AHEAD; i++) {
            if (passTrialMinute() == letter) {
                return i;
            }
        }
        return NONE;
    }

    public int dry() {
        trial.copyFrom(now);
        for (int i = 0; i <= MOST_AHEAD; i++) {
            if (trial.allWater(told.mouths) == 0) {
                return i;
            }
            passTrialMinute();
        }
        return NONE;
    }

    public int spill(int minutes) {
        if (!isAhead(minutes)) {
            return NONE;
        }
        int sum = 0;
        trial.copyFrom(now);
        for (int i = 0; i < minutes; i++) {
            passTrialMinute();
            sum += trial.spilled;
        }
        return sum;
    }

    public int over(int mouth) {
        if (!isMouth(mouth)) {
            return NONE;
        }
        trial.copyFrom(now);
        for (int i = 1; i <= MOST_AHEAD; i++) {
            passTrialMinute();
            if (trial.ranOver(mouth)) {
                return i;
            }
        }
        return NONE;
    }

    public int first() {
        trial.copyFrom(now);
        for (int i = 1; i <= MOST_AHEAD; i++) {
            passTrialMinute();
            for (int mouth = 0; mouth < told.mouths; mouth++) {
                if (trial.ranOver(mouth)) {
                    return mouth;
                }
            }
        }
        return NONE;
    }

    public int great(int minutes) {
        if (!isAhead(minutes) || told.mouths == 0) {
            return NONE;
        }
        emptyRow();
        trial.copyFrom(now);
        for (int i = 0; i < minutes; i++) {
            passTrialMinute();
            for (int mouth = 0; mouth < told.mouths; mouth++) {
                row[mouth] += trial.flow[mouth];
            }
        }
        return greatestOfRow(told.mouths);
    }

    public int twins(int minutes) {
        if (!isAhead(minutes)) {
            return NONE;
        }
        emptyRow();
        trial.copyFrom(now);
        for (int i = 0; i < minutes; i++) {
            passTrialMinute();
            for (int mouth = 0; mouth < told.mouths; mouth++) {
                row[mouth] |= trial.flowsUnlike(mouth, told.mouths);
            }
        }
        int pairs = 0;
        for (int mouth = 0; mouth < told.mouths; mouth++) {
            // Those with lower numbers have counted their pairs with this one.
            int others = told.mouths - 1 - mouth;
            pairs += others - Integer.bitCount(row[mouth] >> (mouth + 1));
        }
        return pairs;
    }

    public int down(int mouth) {
        return isMouth(mouth) ? told.below(mouth) : NONE;
    }

    public int up(int mouth) {
        if (!isMouth(mouth)) {
            return NONE;
        }
        int bits = 0;
        for (int other = 0; other < told.mouths; other++) {
            if ((told.below(other) >> mouth & 1) != 0) {
                bits |= 1 << other;
            }
        }
        return bits;
    }

    public int chain() {
        int most = 0;
        for (int mouth = 0; mouth < told.mouths; mouth++) {
            most = Math.max(most, 1 + Integer.bitCount(told.below(mouth)));
        }
        return most;
    }

    public int sounds() {
        return now.sounding;
    }

    public int last() {
        return now.lastRead;
    }

    public int often() {
        for (int letter = 0; letter < told.letters; letter++) {
            row[letter] = now.signsLike(letter);
        }
        int most = greatestOfRow(told.letters);
        return most != NONE && row[most] > 0 ? most : NONE;
    }

    public int run() {
        int most = 0;
        int length = 0;
        for (int i = 0; i < now.slateSize; i++) {
            boolean goesOn = i > 0 && now.slate[i] == now.slate[i - 1];
            length = goesOn ? length + 1 : 1;
            if (now.slate[i] != HOLE) {
                most = Math.max(most, length);
            }
        }
        return most;
    }

    public int stands() {
        return now.placeOf(wordTold);
    }

    public int maybe() {
        return wordTold.size == 0 ? NONE : now.placesFor(wordTold);
    }

    public int entire() {
        trial.copyFrom(now);
        for (int i = 0; i <= MOST_AHEAD; i++) {
            if (trial.placeOf(wordTold) != NONE) {
                return i;
            }
            passTrialMinute();
        }
        return NONE;
    }

    public int aim(int letter, int what) {
        if (!isLetter(letter) || what < 0 || what > 1) {
            return OTHERS;
        }
        if (isReadWith(letter, NONE, 0)) {
            return what == 0 ? 0 : NONE;
        }
        for (int water = 1; water <= MOST_POURED; water++) {
            for (int mouth = 0; mouth < told.mouths; mouth++) {
                if (isReadWith(letter, mouth, water)) {
                    return what == 0 ? water : mouth;
                }
            }
        }
        return OTHERS;
    }

    public int hush(int letter) {
        if (!isLetter(letter)) {
            return NONE;
        }
        int best = NONE;
        int fewest = MOST_MOUTHS + 1;
        int sets = 1 << told.mouths;
        for (int set = 0; set < sets; set++) {
            if (Integer.bitCount(set) < fewest && isReadTurned(letter, set)) {
                best = set;
                fewest = Integer.bitCount(set);
            }
        }
        return best;
    }

    public boolean see(int mouth, boolean sounds) {
        return isMouth(mouth) && seen.add(mouth, sounds);
    }

    public int rains() {
        int bits = 0;
        for (int rain = 0; rain < RAIN_KINDS; rain++) {
            if (seen.agreesWith(soundingIn(rain))) {
                bits |= 1 << rain;
            }
        }
        return bits;
    }

    public int look() {
        emptyRow();
        int all = 0;
        for (int rain = 0; rain < RAIN_KINDS; rain++) {
            int sounding = soundingIn(rain);
            if (seen.agreesWith(sounding)) {
                all++;
                addBitsToRow(sounding);
            }
        }
        int best = NONE;
        int least = all;
        for (int mouth = 0; mouth < told.mouths; mouth++) {
            int greater = Math.max(row[mouth], all - row[mouth]);
            if (greater < least) {
                best = mouth;
                least = greater;
            }
        }
        return best;
    }

    public int chance(int letter, int minutes, int odds) {
        boolean minutesFit = minutes >= 1 && minutes <= MOST_ODD_MINUTES;
        if (!isLetter(letter) || !minutesFit || odds < 0 || odds > 10) {
            return NONE;
        }
        int sum = 0;
        int sets = 1 << minutes;
        for (int wet = 0; wet < sets; wet++) {
            int weight = weightOf(wet, minutes, odds);
            if (weight > 0 && isReadInOddRain(letter, wet, minutes)) {
                sum += weight;
            }
        }
        // The weights are parts of 10 to the minutes; millionths are wanted.
        for (int i = minutes; i < MOST_ODD_MINUTES; i++) {
            sum *= 10;
        }
        return sum;
    }

    public int rests(int lose, int pulls, int holds, int what) throws NoSuchElementException {
        if (!isDigit(lose) || !isDigit(pulls) || !isDigit(holds) || what < NONE) {
            throw new NoSuchElementException();
        }
        int found = 0;
        for (int choices = 0; choices < 4; choices++) {
            if (isRest(lose, pulls, holds, choices)) {
                if (found == what) {
                    return choices;
                }
                found++;
            }
        }
        if (what != NONE) {
            throw new NoSuchElementException();
        }
        return found;
    }

    public int days(int seed, int minutes, int what) {
        boolean seedFits = seed >= 0 && seed <= 9999;
        if (!seedFits || minutes < 1 || minutes > 99 || what < 0 || what > 2) {
            return NONE;
        }
        int letters = 0;
        int holes = 0;
        drawn = seed;
        trial.copyFrom(now);
        for (int i = 0; i < minutes; i++) {
            doDrawn();
            int read = passTrialMinute();
            if (read == HOLE) {
                holes++;
            } else if (read != NONE) {
                letters++;
            }
        }
        if (what == 2) {
            return trial.allWater(told.mouths);
        }
        return what == 0 ? letters : holes;
    }

    public boolean mark(int mark, boolean back) {
        if (mark < 0 || mark >= MOST_MARKS) {
            return false;
        }
        Mark chosen = marks[mark];
        if (!back) {
            chosen.laid = true;
            chosen.wall.copyFrom(now);
            chosen.day.copyFrom(dayTold);
            chosen.word.copyFrom(wordTold);
            chosen.seen.copyFrom(seen);
            return true;
        }
        if (!chosen.laid) {
            return false;
        }
        now.copyFrom(chosen.wall);
        dayTold.copyFrom(chosen.day);
        wordTold.copyFrom(chosen.word);
        seen.copyFrom(chosen.seen);
        pastCount = 0;
        return true;
    }

    public int count(int what) {
        switch (what) {
            case 0:
                return told.mouths;
            case 1:
                return told.letters;
            case 2:
                return now.minute;
            case 3:
                return told.rainOf(now.minute);
            case 4:
                return now.allWater(told.mouths);
            case 5:
                return now.stopped;
            case 6:
                return now.slateSize;
            case 7:
                return now.signsLike(HOLE);
            case 8:
                return dayTold.size;
            case 9:
                return wordTold.size;
            case 10:
                return seen.size;
            case 11:
                return pastCount;
            case 12:
                return tape.size;
            default:
                return NONE;
        }
    }

    private boolean isMouth(int mouth) {
        return mouth >= 0 && mouth < told.mouths;
    }

    private boolean isLetter(int letter) {
        return letter >= 0 && letter < told.letters;
    }

    private static boolean isAhead(int minutes) {
        return minutes >= 1 && minutes <= MOST_AHEAD;
    }

    private static boolean isDigit(int number) {
        return number >= 0 && number <= 9;
    }

    private void beginAnew() {
        now.begin(told);
        dayTold.size = 0;
        wordTold.size = 0;
        seen.size = 0;
        pastCount = 0;
        for (int i = 0; i < MOST_MARKS; i++) {
            marks[i].laid = false;
        }
    }

    private void keepPast() {
        past[pastNext].copyFrom(now);
        pastNext = (pastNext + 1) & (PAST_ROOM - 1);
        pastCount = Math.min(pastCount + 1, PAST_ROOM);
    }

    private int passTrialMinute() {
        return trial.passMinute(told, told.rainOf(trial.minute));
    }

    /** Does a line of the DAY to the trial: what it READ, NONE for nothing, OTHERS if it can't be. */
    private int doLine(int line) {
        int mouth = dayTold.mouth[line];
        switch (dayTold.act[line]) {
            case Day.MINUTE:
                return passTrialMinute();
            case Day.POUR:
                trial.addWater(mouth, dayTold.water[line]);
                return NONE;
            case Day.STOP:
                return trial.stopMouth(mouth) ? NONE : OTHERS;
            default:
                return trial.clearMouth(mouth) ? NONE : OTHERS;
        }
    }

    private boolean isReadWith(int letter, int mouth, int water) {
        trial.copyFrom(now);
        if (mouth != NONE) {
            trial.addWater(mouth, water);
        }
        return passTrialMinute() == letter;
    }

    private boolean isReadTurned(int letter, int set) {
        trial.copyFrom(now);
        trial.stopped ^= set;
        return passTrialMinute() == letter;
    }

    private int soundingIn(int rain) {
        trial.copyFrom(now);
        trial.passMinute(told, rain);
        return trial.sounding;
    }

    private boolean isReadInOddRain(int letter, int wet, int minutes) {
        trial.copyFrom(now);
        for (int i = 0; i < minutes; i++) {
            trial.passMinute(told, (wet >> i & 1) != 0 ? HEAVIEST_RAIN : 0);
        }
        return trial.lastRead == letter;
    }

    private static int weightOf(int wet, int minutes, int odds) {
        int weight = 1;
        for (int i = 0; i < minutes; i++) {
            weight *= (wet >> i & 1) != 0 ? odds : 10 - odds;
        }
        return weight;
    }

    private static boolean isRest(int lose, int pulls, int holds, int choices) {
        int one = choices >> 1;
        int other = choices & 1;
        boolean oneStays = gain(lose, pulls, holds, one, other)
                >= gain(lose, pulls, holds, 1 - one, other);
        boolean otherStays = gain(lose, pulls, holds, other, one)
                >= gain(lose, pulls, holds, 1 - other, one);
        return oneStays && otherStays;
    }

    private static int gain(int lose, int pulls, int holds, int own, int others) {
        if (own == 1) {
            return others == 1 ? -lose : pulls;
        }
        return others == 1 ? holds : 0;
    }

    private void doDrawn() {
        if (told.mouths == 0) {
            return;
        }
        int mouth = draw(told.mouths);
        int act = draw(5);
        if (act == 0) {
            trial.addWater(mouth, draw(9) + 1);
        } else if (act == 1) {
            trial.stopMouth(mouth);
        } else if (act == 2) {
            trial.clearMouth(mouth);
        }
    }

    private int draw(int below) {
        drawn = (drawn * 1103515245L + 12345L) % 2147483648L;
        int high = (int) (drawn / 65536L);
        return below > 0 ? high % below : 0;
    }

    private void emptyRow() {
        for (int i = 0; i < MOST_MOUTHS; i++) {
            row[i] = 0;
        }
    }

    private void addBitsToRow(int bits) {
        for (int i = 0; i < MOST_MOUTHS; i++) {
            row[i] += bits >> i & 1;
        }
    }

    private int greatestOfRow(int length) {
        int best = NONE;
        for (int i = 0; i < length && i < MOST_MOUTHS; i++) {
            if (best == NONE || row[i] > row[best]) {
                best = i;
            }
        }
        return best;
    }

    /** The signs that were fed, and the token at which a reader stands among them. */
    private static final class Tape {
        static final int OUT_OF_PLACE = 1;
        static final int UNKNOWN = 2;
        static final int AGAIN = 3;
        static final int OUT_OF_RANGE = 4;
        static final int TOO_MANY = 5;

        private static final int END = 0;
        private static final int BAD = 1;
        private static final int WORD = 2;
        private static final int NUMBER = 3;
        private static final int SIGN = 4;
        private static final int LONGEST_WORD = 8;
        private static final int LONGEST_NUMBER = 4;

        private final char[] signs;
        private int size;
        private int type;
        private int place;
        private int behind;
        /** The letters of a WORD, five bits each: no two WORDS have the same. */
        private long name;
        private int number;
        private int fault;

        Tape() {
            signs = new char[TAPE_ROOM];
        }

        void addBytes(long bytes) {
            for (int shift = 56; shift >= 0; shift -= 8) {
                int sign = (int) (bytes >>> shift & 255L);
                boolean fits = sign == 10 || sign >= 32 && sign <= 126;
                if (fits && size < TAPE_ROOM) {
                    signs[size] = (char) sign;
                    size++;
                }
            }
        }

        void open() {
            behind = 0;
            fault = 0;
            advance();
        }

        /** Whatever was read, the TAPE is taken: answers the FAULT, 0 for none. */
        int close() {
            size = 0;
            return fault;
        }

        /** Always answers false, so that a reader can leave with it. */
        boolean fail(int kind) {
            if (fault == 0) {
                fault = kind + 16 * place;
            }
            return false;
        }

        void advance() {
            int at = behind;
            while (at < size && (signs[at] == 10 || signs[at] == ' ')) {
                at++;
            }
            place = at;
            behind = at;
            if (at >= size) {
                type = END;
                return;
            }
            char sign = signs[at];
            if (sign >= 'a' && sign <= 'z') {
                scanWord();
            } else if (sign >= '0' && sign <= '9') {
                scanNumber();
            } else {
                type = "()<=+-*;".indexOf(sign) >= 0 ? SIGN : BAD;
                behind = at + 1;
            }
        }

        private void scanWord() {
            name = 0;
            while (behind < size && signs[behind] >= 'a' && signs[behind] <= 'z') {
                name = name * 32 + (signs[behind] - 'a' + 1);
                behind++;
            }
            type = behind - place <= LONGEST_WORD ? WORD : BAD;
        }

        private void scanNumber() {
            number = 0;
            while (behind < size && signs[behind] >= '0' && signs[behind] <= '9') {
                number = number * 10 + (signs[behind] - '0');
                behind++;
            }
            type = behind - place <= LONGEST_NUMBER ? NUMBER : BAD;
        }

        boolean isEnd() {
            return type == END;
        }

        boolean isNumber() {
            return type == NUMBER;
        }

        boolean isSign(char sign) {
            return type == SIGN && place < size && signs[place] == sign;
        }

        boolean isWord(String text) {
            if (type != WORD || behind - place != text.length() || behind > size) {
                return false;
            }
            for (int i = 0; i < text.length(); i++) {
                if (signs[place + i] != text.charAt(i)) {
                    return false;
                }
            }
            return true;
        }

        boolean isName() {
            return type == WORD && !(isWord("mouth") || isWord("high") || isWord("takes")
                    || isWord("holds") || isWord("gutter") || isWord("letter") || isWord("of")
                    || isWord("rain") || isWord("sounds") || isWord("minute") || isWord("pour")
                    || isWord("stop") || isWord("clear") || isWord("plain") || isWord("wide")
                    || isWord("slow") || isWord("nest") || isWord("not") || isWord("and")
                    || isWord("or"));
        }

        boolean takeWord(String text) {
            if (!isWord(text)) {
                return fail(OUT_OF_PLACE);
            }
            advance();
            return true;
        }

        boolean takeSign(char sign) {
            if (!isSign(sign)) {
                return fail(OUT_OF_PLACE);
            }
            advance();
            return true;
        }

        /** The NUMBER that stands here, NONE behind a FAULT. */
        int takeNumber(int least, int most) {
            if (type != NUMBER) {
                fail(OUT_OF_PLACE);
                return NONE;
            }
            if (number < least || number > most) {
                fail(OUT_OF_RANGE);
                return NONE;
            }
            int taken = number;
            advance();
            return taken;
        }

        /** The MOUTH whose NAME stands here, still to be passed; NONE behind a FAULT. */
        int mouthHere(Front front) {
            if (!isName()) {
                fail(OUT_OF_PLACE);
                return NONE;
            }
            int mouth = front.mouthNamed(name);
            if (mouth == NONE) {
                fail(UNKNOWN);
            }
            return mouth;
        }
    }

    /** What a FRONT tells, none of which a MINUTE changes. */
    private static final class Front {
        static final int PLAIN = 0;
        static final int WIDE = 1;
        static final int SLOW = 2;
        static final int NEST = 3;

        private int mouths;
        private final long[] mouthName;
        private final int[] kind;
        private final int[] high;
        private final int[] takes;
        private final int[] holds;
        private final int[] gutter;
        /** The MOUTHS, the highest first. */
        private final int[] order;
        private int letters;
        private final long[] letterName;
        private final int[] letterMouths;
        private int rains;
        private final int[] rain;
        private final Law law;

        Front() {
            mouthName = new long[MOST_MOUTHS];
            kind = new int[MOST_MOUTHS];
            high = new int[MOST_MOUTHS];
            takes = new int[MOST_MOUTHS];
            holds = new int[MOST_MOUTHS];
            gutter = new int[MOST_MOUTHS];
            order = new int[MOST_MOUTHS];
            letterName = new long[MOST_LETTERS];
            letterMouths = new int[MOST_LETTERS];
            rain = new int[MOST_RAINS];
            law = new Law();
        }

        void forget() {
            mouths = 0;
            letters = 0;
            rains = 0;
            law.size = 0;
        }

        int mouthNamed(long name) {
            for (int i = 0; i < mouths; i++) {
                if (mouthName[i] == name) {
                    return i;
                }
            }
            return NONE;
        }

        int letterNamed(long name) {
            for (int i = 0; i < letters; i++) {
                if (letterName[i] == name) {
                    return i;
                }
            }
            return NONE;
        }

        boolean isTold(long name) {
            return mouthNamed(name) != NONE || letterNamed(name) != NONE;
        }

        int letterOf(int bits) {
            for (int i = 0; i < letters; i++) {
                if (letterMouths[i] == bits) {
                    return i;
                }
            }
            return NONE;
        }

        int readOf(int sounding) {
            int letter = letterOf(sounding);
            return letter == NONE && sounding != 0 ? HOLE : letter;
        }

        int rainOf(int minute) {
            return rains > 0 && minute >= 0 ? rain[minute % rains] : 0;
        }

        int nests() {
            int bits = 0;
            for (int i = 0; i < mouths; i++) {
                if (kind[i] == NEST) {
                    bits |= 1 << i;
                }
            }
            return bits;
        }

        int mostSpouted(int mouth) {
            if (kind[mouth] == WIDE) {
                return 6;
            }
            return kind[mouth] == SLOW ? 1 : 3;
        }

        int below(int mouth) {
            int bits = 0;
            int at = gutter[mouth];
            // Each gutter goes lower, so no way is longer than all MOUTHS.
            for (int i = 0; i < MOST_MOUTHS && at != NONE; i++) {
                bits |= 1 << at;
                at = gutter[at];
            }
            return bits;
        }

        /** The last MOUTH told takes its place behind all that are as high or higher. */
        void putInOrder(int mouth) {
            int at = mouth;
            while (at > 0 && high[order[at - 1]] < high[mouth]) {
                order[at] = order[at - 1];
                at--;
            }
            order[at] = mouth;
        }
    }

    /** The E of sounds, each part behind those that it joins. */
    private static final class Law {
        // What is not below 0 is a NUMBER.
        static final int FLOW = -1;
        static final int STANDS = -2;
        static final int TALL = -3;
        static final int WET = -4;
        static final int NOT = -5;
        static final int AND = -6;
        static final int OR = -7;
        static final int LESS = -8;
        static final int EQUAL = -9;
        static final int PLUS = -10;
        static final int MINUS = -11;
        static final int TIMES = -12;

        /** Four wait at the most on each of five levels, and one is at hand. */
        private static final int STACK_ROOM = 24;

        private final int[] codes;
        private int size;
        private final int[] stack;

        Law() {
            codes = new int[TAPE_ROOM];
            stack = new int[STACK_ROOM];
        }

        void add(int code) {
            if (size < TAPE_ROOM) {
                codes[size] = code;
                size++;
            }
        }

        int valueFor(int flow, int stands, int tall, int wet) {
            if (size == 0) {
                return flow;
            }
            int top = 0;
            for (int i = 0; i < size; i++) {
                int code = codes[i];
                if (code <= AND) {
                    if (top >= 2) {
                        top--;
                        stack[top - 1] = join(code, stack[top - 1], stack[top]);
                    }
                } else if (code == NOT) {
                    if (top >= 1) {
                        stack[top - 1] = stack[top - 1] == 0 ? 1 : 0;
                    }
                } else if (top < STACK_ROOM) {
                    stack[top] = code >= 0 ? code : fact(code, flow, stands, tall, wet);
                    top++;
                }
            }
            return stack[0];
        }

        private static int fact(int code, int flow, int stands, int tall, int wet) {
            switch (code) {
                case FLOW:
                    return flow;
                case STANDS:
                    return stands;
                case TALL:
                    return tall;
                default:
                    return wet;
            }
        }

        private static int join(int code, int left, int right) {
            switch (code) {
                case AND:
                    return left != 0 && right != 0 ? 1 : 0;
                case OR:
                    return left != 0 || right != 0 ? 1 : 0;
                case LESS:
                    return left < right ? 1 : 0;
                case EQUAL:
                    return left == right ? 1 : 0;
                case PLUS:
                    return left + right;
                case MINUS:
                    return left - right;
                default:
                    return left * right;
            }
        }
    }

    /** Reads an E from the TAPE; what reads answers false behind a FAULT. */
    private static final class LawReader {
        private static final int DEEPEST = 5;
        // The levels of what joins, the loosest first.
        static final int AND_LEVEL = 0;
        private static final int TEST_LEVEL = 1;
        private static final int SUM_LEVEL = 2;
        private static final int PRODUCT_LEVEL = 3;

        private final Tape tape;

        LawReader(Tape tape) {
            this.tape = tape;
        }

        /** A whole E is what AND_LEVEL joins. */
        boolean readLevel(Law law, int level, int depth) {
            if (level > PRODUCT_LEVEL) {
                return readPart(law, depth);
            }
            boolean good = readLevel(law, level + 1, depth);
            int code = joinHere(level);
            for (int i = 0; i < TAPE_ROOM && good && code != 0; i++) {
                tape.advance();
                good = readLevel(law, level + 1, depth);
                law.add(code);
                // A TEST has one < or = at the most; the others go on and on.
                code = level == TEST_LEVEL ? 0 : joinHere(level);
            }
            return good;
        }

        private boolean readPart(Law law, int depth) {
            int fact = factHere();
            boolean isNot = tape.isWord("not");
            boolean isOpen = tape.isSign('(');
            if (fact == 0 && !isNot && !isOpen && !tape.isNumber()) {
                return tape.fail(Tape.OUT_OF_PLACE);
            }
            if (depth >= DEEPEST) {
                return tape.fail(Tape.TOO_MANY);
            }
            if (!isNot && !isOpen) {
                law.add(fact == 0 ? tape.number : fact);
            }
            tape.advance();
            if (isNot) {
                boolean good = readPart(law, depth + 1);
                law.add(Law.NOT);
                return good;
            }
            return !isOpen || readLevel(law, AND_LEVEL, depth + 1) && tape.takeSign(')');
        }

        private int factHere() {
            if (tape.isWord("flow")) {
                return Law.FLOW;
            }
            if (tape.isWord("stands")) {
                return Law.STANDS;
            }
            if (tape.isWord("tall")) {
                return Law.TALL;
            }
            return tape.isWord("wet") ? Law.WET : 0;
        }

        /** What joins on this level, if it stands here, else 0. */
        private int joinHere(int level) {
            switch (level) {
                case AND_LEVEL:
                    return tape.isWord("and") ? Law.AND : tape.isWord("or") ? Law.OR : 0;
                case TEST_LEVEL:
                    return tape.isSign('<') ? Law.LESS : tape.isSign('=') ? Law.EQUAL : 0;
                case SUM_LEVEL:
                    return tape.isSign('+') ? Law.PLUS : tape.isSign('-') ? Law.MINUS : 0;
                default:
                    return tape.isSign('*') ? Law.TIMES : 0;
            }
        }
    }

    /** Reads a FRONT from the TAPE; what reads a line answers false behind a FAULT. */
    private static final class FrontReader {
        private final Tape tape;
        private final LawReader lawReader;

        FrontReader(Tape tape) {
            this.tape = tape;
            this.lawReader = new LawReader(tape);
        }

        int readFront(Front front) {
            front.forget();
            tape.open();
            boolean good = true;
            for (int i = 0; i < TAPE_ROOM && good && !tape.isEnd(); i++) {
                good = readLine(front) && tape.takeSign(';');
            }
            return tape.close();
        }

        private boolean readLine(Front front) {
            if (tape.isWord("mouth")) {
                return readMouth(front);
            }
            if (tape.isWord("gutter")) {
                return readGutter(front);
            }
            if (tape.isWord("letter")) {
                return readLetterNamed(front) && readLetterMouths(front);
            }
            if (tape.isWord("rain")) {
                return readRain(front);
            }
            if (!tape.isWord("sounds")) {
                return tape.fail(Tape.OUT_OF_PLACE);
            }
            // Here and not in a function of its own, as calls go eight deep at most.
            if (front.law.size > 0) {
                return tape.fail(Tape.AGAIN);
            }
            tape.advance();
            return lawReader.readLevel(front.law, LawReader.AND_LEVEL, 0);
        }

        private boolean readMouth(Front front) {
            int mouth = front.mouths;
            if (mouth >= MOST_MOUTHS) {
                return tape.fail(Tape.TOO_MANY);
            }
            tape.advance();
            if (!isNewName(front)) {
                return false;
            }
            front.mouthName[mouth] = tape.name;
            tape.advance();
            front.kind[mouth] = kindHere();
            if (front.kind[mouth] == NONE) {
                return tape.fail(Tape.OUT_OF_PLACE);
            }
            tape.advance();
            front.high[mouth] = readMeasure("high", 1, 20);
            front.takes[mouth] = front.high[mouth] == NONE ? NONE : readMeasure("takes", 0, 9);
            front.holds[mouth] = front.takes[mouth] == NONE ? NONE : readMeasure("holds", 0, 40);
            if (front.holds[mouth] == NONE) {
                return false;
            }
            front.gutter[mouth] = NONE;
            front.putInOrder(mouth);
            front.mouths++;
            return true;
        }

        private boolean isNewName(Front front) {
            if (!tape.isName()) {
                return tape.fail(Tape.OUT_OF_PLACE);
            }
            return !front.isTold(tape.name) || tape.fail(Tape.AGAIN);
        }

        private int kindHere() {
            if (tape.isWord("plain")) {
                return Front.PLAIN;
            }
            if (tape.isWord("wide")) {
                return Front.WIDE;
            }
            if (tape.isWord("slow")) {
                return Front.SLOW;
            }
            return tape.isWord("nest") ? Front.NEST : NONE;
        }

        private int readMeasure(String word, int least, int most) {
            return tape.takeWord(word) ? tape.takeNumber(least, most) : NONE;
        }

        private boolean readGutter(Front front) {
            tape.advance();
            int from = tape.mouthHere(front);
            if (from == NONE) {
                return false;
            }
            if (front.gutter[from] != NONE) {
                return tape.fail(Tape.AGAIN);
            }
            tape.advance();
            int to = tape.mouthHere(front);
            if (to == NONE) {
                return false;
            }
            if (front.high[to] >= front.high[from]) {
                return tape.fail(Tape.AGAIN);
            }
            tape.advance();
            front.gutter[from] = to;
            return true;
        }

        /** Up to its "of". */
        private boolean readLetterNamed(Front front) {
            int letter = front.letters;
            if (letter >= MOST_LETTERS) {
                return tape.fail(Tape.TOO_MANY);
            }
            tape.advance();
            if (!isNewName(front)) {
                return false;
            }
            front.letterName[letter] = tape.name;
            tape.advance();
            return tape.takeWord("of");
        }

        /** Up to its ; which is still to be passed. */
        private boolean readLetterMouths(Front front) {
            int bits = 0;
            for (int i = 0; i <= MOST_MOUTHS && (bits == 0 || !tape.isSign(';')); i++) {
                int mouth = tape.mouthHere(front);
                if (mouth == NONE) {
                    return false;
                }
                if ((bits >> mouth & 1) != 0) {
                    return tape.fail(Tape.AGAIN);
                }
                bits |= 1 << mouth;
                tape.advance();
            }
            if (front.letterOf(bits) != NONE) {
                return tape.fail(Tape.AGAIN);
            }
            int letter = front.letters;
            if (letter >= MOST_LETTERS) {
                return tape.fail(Tape.TOO_MANY);
            }
            front.letterMouths[letter] = bits;
            front.letters++;
            return true;
        }

        private boolean readRain(Front front) {
            if (front.rains > 0) {
                return tape.fail(Tape.AGAIN);
            }
            tape.advance();
            for (int i = 0; i < MOST_RAINS && (i == 0 || !tape.isSign(';')); i++) {
                front.rain[i] = tape.takeNumber(0, HEAVIEST_RAIN);
                if (front.rain[i] == NONE) {
                    return false;
                }
                front.rains = i + 1;
            }
            if (tape.isNumber()) {
                // Of two FAULTS of a token the lesser one counts.
                boolean inRange = tape.number <= HEAVIEST_RAIN;
                return tape.fail(inRange ? Tape.TOO_MANY : Tape.OUT_OF_RANGE);
            }
            return true;
        }
    }

    /** Reads a DAY or a WORD from the TAPE. */
    private static final class ListReader {
        private final Tape tape;

        ListReader(Tape tape) {
            this.tape = tape;
        }

        int readDay(Front front, Day day) {
            day.size = 0;
            tape.open();
            boolean good = true;
            for (int i = 0; i <= MOST_LINES && good && !tape.isEnd(); i++) {
                good = readLine(front, day) && tape.takeSign(';');
            }
            return tape.close();
        }

        private boolean readLine(Front front, Day day) {
            int act = actHere();
            if (act == NONE) {
                return tape.fail(Tape.OUT_OF_PLACE);
            }
            int line = day.size;
            if (line >= MOST_LINES) {
                return tape.fail(Tape.TOO_MANY);
            }
            tape.advance();
            day.act[line] = act;
            day.size++;
            if (act == Day.MINUTE) {
                return true;
            }
            int mouth = tape.mouthHere(front);
            if (mouth == NONE) {
                return false;
            }
            tape.advance();
            day.mouth[line] = mouth;
            if (act == Day.POUR) {
                day.water[line] = tape.takeNumber(1, MOST_POURED);
                return day.water[line] != NONE;
            }
            return true;
        }

        private int actHere() {
            if (tape.isWord("minute")) {
                return Day.MINUTE;
            }
            if (tape.isWord("pour")) {
                return Day.POUR;
            }
            if (tape.isWord("stop")) {
                return Day.STOP;
            }
            return tape.isWord("clear") ? Day.CLEAR : NONE;
        }

        int readWord(Front front, Word word) {
            word.size = 0;
            tape.open();
            boolean good = true;
            // An empty TAPE is no WORD: its end is looked at as a NAME, too.
            for (int i = 0; i <= MOST_IN_WORD && good && (i == 0 || !tape.isEnd()); i++) {
                good = readLetterName(front, word);
            }
            return tape.close();
        }

        private boolean readLetterName(Front front, Word word) {
            if (!tape.isName()) {
                return tape.fail(Tape.OUT_OF_PLACE);
            }
            int letter = front.letterNamed(tape.name);
            if (letter == NONE) {
                return tape.fail(Tape.UNKNOWN);
            }
            if (word.size >= MOST_IN_WORD) {
                return tape.fail(Tape.TOO_MANY);
            }
            word.letter[word.size] = letter;
            word.size++;
            tape.advance();
            return true;
        }
    }

    /** The lines of a DAY. */
    private static final class Day {
        static final int MINUTE = 0;
        static final int POUR = 1;
        static final int STOP = 2;
        static final int CLEAR = 3;

        private int size;
        private final int[] act;
        private final int[] mouth;
        private final int[] water;

        Day() {
            act = new int[MOST_LINES];
            mouth = new int[MOST_LINES];
            water = new int[MOST_LINES];
        }

        void copyFrom(Day other) {
            size = other.size;
            System.arraycopy(other.act, 0, act, 0, MOST_LINES);
            System.arraycopy(other.mouth, 0, mouth, 0, MOST_LINES);
            System.arraycopy(other.water, 0, water, 0, MOST_LINES);
        }
    }

    /** The LETTERS of a WORD; of size 0: there is none. */
    private static final class Word {
        private int size;
        private final int[] letter;

        Word() {
            letter = new int[MOST_IN_WORD];
        }

        void copyFrom(Word other) {
            size = other.size;
            System.arraycopy(other.letter, 0, letter, 0, MOST_IN_WORD);
        }
    }

    /** What is SEEN. */
    private static final class Seen {
        private int size;
        private final int[] mouth;
        private final boolean[] sounding;

        Seen() {
            mouth = new int[MOST_SEEN];
            sounding = new boolean[MOST_SEEN];
        }

        boolean add(int newMouth, boolean newSounding) {
            if (size >= MOST_SEEN) {
                return false;
            }
            mouth[size] = newMouth;
            sounding[size] = newSounding;
            size++;
            return true;
        }

        boolean agreesWith(int bits) {
            for (int i = 0; i < size; i++) {
                boolean sounds = (bits >> mouth[i] & 1) != 0;
                if (sounds != sounding[i]) {
                    return false;
                }
            }
            return true;
        }

        void copyFrom(Seen other) {
            size = other.size;
            for (int i = 0; i < MOST_SEEN; i++) {
                mouth[i] = other.mouth[i];
                sounding[i] = other.sounding[i];
            }
        }
    }

    /** How it is at one time, the slate with it. */
    private static final class Wall {
        private int minute;
        private int stopped;
        private final int[] water;
        private final int[] flow;
        private int sounding;
        private int lastRead;
        // Asked right behind a MINUTE alone, so nobody keeps or copies these two.
        /** The MOUTHS that RAN OVER in it, as bits. */
        private int overs;
        private int spilled;
        private final int[] slate;
        private int slateSize;

        Wall() {
            water = new int[MOST_MOUTHS];
            flow = new int[MOST_MOUTHS];
            slate = new int[MOST_ON_SLATE];
            lastRead = NONE;
        }

        void begin(Front front) {
            minute = 0;
            stopped = front.nests();
            for (int i = 0; i < MOST_MOUTHS; i++) {
                water[i] = 0;
                flow[i] = 0;
            }
            sounding = 0;
            lastRead = NONE;
            slateSize = 0;
        }

        void copyFrom(Wall other) {
            minute = other.minute;
            stopped = other.stopped;
            System.arraycopy(other.water, 0, water, 0, MOST_MOUTHS);
            System.arraycopy(other.flow, 0, flow, 0, MOST_MOUTHS);
            sounding = other.sounding;
            lastRead = other.lastRead;
            System.arraycopy(other.slate, 0, slate, 0, MOST_ON_SLATE);
            slateSize = other.slateSize;
        }

        boolean isStopped(int mouth) {
            return (stopped >> mouth & 1) != 0;
        }

        boolean ranOver(int mouth) {
            return (overs >> mouth & 1) != 0;
        }

        void addWater(int mouth, int more) {
            water[mouth] = Math.min(water[mouth] + more, MOST_WATER);
        }

        /** False, and nothing is done, if it is STOPPED. */
        boolean stopMouth(int mouth) {
            boolean can = !isStopped(mouth);
            stopped |= 1 << mouth;
            return can;
        }

        /** False, and nothing is done, if it is not STOPPED. */
        boolean clearMouth(int mouth) {
            boolean can = isStopped(mouth);
            stopped &= ~(1 << mouth);
            return can;
        }

        int passMinute(Front front, int rain) {
            overs = 0;
            spilled = 0;
            for (int i = 0; i < front.mouths; i++) {
                water[i] += rain * front.takes[i];
            }
            for (int i = 0; i < front.mouths; i++) {
                runOver(front, front.order[i]);
                spout(front, front.order[i]);
            }
            sounding = soundingNow(front, rain);
            lastRead = front.readOf(sounding);
            if (lastRead != NONE && slateSize < MOST_ON_SLATE) {
                slate[slateSize] = lastRead;
                slateSize++;
            }
            minute++;
            return lastRead;
        }

        private void runOver(Front front, int mouth) {
            int more = water[mouth] - front.holds[mouth];
            if (more <= 0) {
                return;
            }
            water[mouth] -= more;
            overs |= 1 << mouth;
            int to = front.gutter[mouth];
            if (to == NONE) {
                spilled += more;
            } else {
                water[to] += more;
            }
        }

        private void spout(Front front, int mouth) {
            flow[mouth] = isStopped(mouth) ? 0 : Math.min(water[mouth], front.mostSpouted(mouth));
            water[mouth] -= flow[mouth];
        }

        private int soundingNow(Front front, int rain) {
            int bits = 0;
            for (int i = 0; i < front.mouths; i++) {
                if (front.law.valueFor(flow[i], water[i], front.high[i], rain) != 0) {
                    bits |= 1 << i;
                }
            }
            return bits;
        }

        int allWater(int mouths) {
            int sum = 0;
            for (int i = 0; i < mouths && i < MOST_MOUTHS; i++) {
                sum += water[i];
            }
            return sum;
        }

        int flowsUnlike(int mouth, int mouths) {
            int bits = 0;
            for (int i = 0; i < mouths && i < MOST_MOUTHS; i++) {
                if (flow[i] != flow[mouth]) {
                    bits |= 1 << i;
                }
            }
            return bits;
        }

        int signsLike(int sign) {
            int found = 0;
            for (int i = 0; i < slateSize; i++) {
                if (slate[i] == sign) {
                    found++;
                }
            }
            return found;
        }

        int placeOf(Word word) {
            if (word.size == 0) {
                return NONE;
            }
            for (int i = 0; i + word.size <= slateSize; i++) {
                if (fitsAt(i, word, false)) {
                    return i;
                }
            }
            return NONE;
        }

        int placesFor(Word word) {
            int places = 0;
            for (int i = 0; i + word.size <= slateSize; i++) {
                if (fitsAt(i, word, true)) {
                    places++;
                }
            }
            return places;
        }

        private boolean fitsAt(int place, Word word, boolean holesFit) {
            for (int i = 0; i < word.size; i++) {
                int sign = slate[place + i];
                boolean fits = sign == word.letter[i] || holesFit && sign == HOLE;
                if (!fits) {
                    return false;
                }
            }
            return true;
        }
    }

    /** What a MARK holds. */
    private static final class Mark {
        private boolean laid;
        private final Wall wall;
        private final Day day;
        private final Word word;
        private final Seen seen;

        Mark() {
            wall = new Wall();
            day = new Day();
            word = new Word();
            seen = new Seen();
        }
    }
}
