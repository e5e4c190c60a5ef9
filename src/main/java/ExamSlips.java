import java.util.Arrays;

/**
 * Questions that have been told beforehand, of which some lie on the table by lot and few are
 * answered: how likely one passes, what to learn for that, and when.
 */
public final class ExamSlips {
    public static final int NONE = -1;

    private static final int NOTHING = -10_000_000;
    private static final int MILLION = 1_000_000;

    private static final int NOT_REFUSED = 0;
    private static final int CANT_BE = -1;
    private static final int NO_SUCH = -2;
    private static final int NO_ROOM = -5;
    private static final int UNREADABLE = -6;

    private static final int QUESTIONS_MOST = 20;
    private static final int KINGS = 5;
    private static final int LEVELS = 3;
    private static final int RIGHT_MOST = 3;
    private static final int LIE_MOST = 10;
    private static final int PAPERS_MOST = 6;
    private static final int LESSONS_MOST = 120;
    private static final int DAYS_MOST = 20;
    private static final int FRIENDS = 3;
    private static final int SHARED_MOST = 12;
    private static final int YEARS_MOST = 40;
    private static final int IMAGES = 2;
    private static final int TAPE_MOST = 400;
    private static final int HOURS_MOST = 400;
    private static final int SEED_MOST = 1_000_000;

    private static final int LIE = 0;
    private static final int ANSWERS = 1;
    private static final int WANTED = 2;
    private static final int LEAN = 3;
    private static final int ILL = 4;
    private static final int DAYS = 5;
    private static final int HOURS = 6;
    private static final int TERMS = 7;
    private static final int[] TERMS_LEAST = {1, 1, 1, 0, 0, 1, 0};
    private static final int[] TERMS_MOST = {10, 3, 3, 100, 100, 20, 16};
    private static final int[] TERMS_AT_FIRST = {8, 3, 2, 0, 10, 19, 6};

    private static final int PUT_KNOWN = 0;
    private static final int PUT_LIKED = 1;
    private static final int PUT_OUT = 2;

    private final State now = new State();
    private final State[] images = {new State(), new State()};
    private final boolean[] imageKept = new boolean[IMAGES];
    private final int[] tape = new int[TAPE_MOST];
    private int tapeLength;
    private int faultPlace = NONE;
    private int lostYears;
    /** What lay, was answered, was right; filled with NONE until there was an exam. */
    private final int[] latestExam = {NONE, NONE, NONE};
    /** How many calls were refused, by the refusal's number taken positive. */
    private final int[] refusals = new int[7];
    private int latestRefusal = NOT_REFUSED;
    private final Reader reader = new Reader();
    private final Teller teller = new Teller(now);
    private final Lot lot = new Lot();
    private final Planner planner = new Planner(now, teller, lot);
    private final Backward laid = new Backward(planner);
    private final Diary diary = new Diary(now, teller);
    private final Sharing sharing = new Sharing(now, teller);
    private final Rarity rarity = new Rarity();
    private final Sitting sitting = new Sitting(now, teller);

    public ExamSlips() {
    }

    public int question(int king, int pages) {
        if (king < 0 || king >= KINGS || pages < 1 || pages > 99) {
            return refuse(CANT_BE);
        }
        if (now.questions >= QUESTIONS_MOST) {
            return refuse(NO_ROOM);
        }
        return accept(now.addQuestion(king, pages));
    }

    public int know(int question, int what, int value) {
        if (what < PUT_KNOWN || what > PUT_OUT) {
            return refuse(CANT_BE);
        }
        int most = what == PUT_KNOWN ? LEVELS - 1 : 1;
        if (value < 0 || value > most) {
            return refuse(CANT_BE);
        }
        if (!now.has(question)) {
            return refuse(NO_SUCH);
        }
        int[] row = what == PUT_KNOWN ? now.known : what == PUT_LIKED ? now.liked : now.out;
        int was = row[question];
        row[question] = value;
        if (what != PUT_KNOWN) {
            now.pricesChanged();
        }
        return accept(was);
    }

    public int of(int question, int what) {
        if (!now.has(question)) {
            return NONE;
        }
        switch (what) {
            case 0: return now.king[question];
            case 1: return now.pages[question];
            case 2: return now.known[question];
            case 3: return now.liked[question];
            case 4: return now.out[question];
            default: return NONE;
        }
    }

    public int terms(int what, int value) {
        if (what < 0 || what >= TERMS || value < TERMS_LEAST[what] || value > TERMS_MOST[what]) {
            return refuse(CANT_BE);
        }
        int was = now.terms[what];
        now.terms[what] = value;
        now.version++;
        return accept(was);
    }

    public int feed(int a, int b, int c, int d, int e) {
        if (tapeLength > TAPE_MOST - 20) {
            return NONE;
        }
        putBytes(a);
        putBytes(b);
        putBytes(c);
        putBytes(d);
        putBytes(e);
        return tapeLength;
    }

    public int end(int n) {
        if (n < 0 || n > tapeLength) {
            return NONE;
        }
        tapeLength = n;
        return n;
    }

    public int paper() {
        int length = tapeLength;
        tapeLength = 0;
        if (now.paperCount >= PAPERS_MOST) {
            return refuse(NO_ROOM);
        }
        Paper read = reader.read(tape, length);
        faultPlace = reader.fault;
        if (read == null) {
            return refuse(UNREADABLE);
        }
        now.papers[now.paperCount] = read;
        now.paperCount++;
        return accept(now.paperCount - 1);
    }

    public int fault() {
        return faultPlace;
    }

    public int use(int paper) {
        if (paper < NONE || paper >= now.paperCount) {
            return refuse(NO_SUCH);
        }
        int was = now.inUse;
        now.inUse = paper;
        now.pricesChanged();
        return accept(was);
    }

    public int takes(int question, int level, int helped) {
        if (!now.has(question) || level < 1 || level > LEVELS || helped < 0 || helped > 1) {
            return NONE;
        }
        return level == LEVELS ? Teller.AGAIN : teller.hoursOf(question, level, helped, 0);
    }

    public int keeps(int question, int level) {
        if (!now.has(question) || level < 1 || level >= LEVELS) {
            return NONE;
        }
        return teller.daysKept(question, level);
    }

    public int chance(int level) {
        if (level < 0 || level >= LEVELS) {
            return NONE;
        }
        return teller.chanceOf(level);
    }

    public long pass(int part) {
        spreadKnown(NONE, 0);
        return lot.fraction(lot.atLeast(now.terms[WANTED]), part);
    }

    public long right(int many, int part) {
        if (many < 0 || many > RIGHT_MOST) {
            return NONE;
        }
        spreadKnown(NONE, 0);
        return lot.fraction(lot.just(many), part);
    }

    public long mean(int part) {
        spreadKnown(NONE, 0);
        return lot.fraction(lot.just(1) + 2 * lot.just(2) + 3 * lot.just(3), part);
    }

    public long sure(int many, int part) {
        if (many < 0 || many > now.bowlSize()) {
            return NONE;
        }
        lot.setChances(teller);
        spreadSure(many);
        return lot.fraction(lot.atLeast(now.terms[WANTED]), part);
    }

    public int safe() {
        int most = now.bowlSize();
        lot.setChances(teller);
        for (int many = 0; many <= most; many++) {
            spreadSure(many);
            if (lot.atLeast(now.terms[WANTED]) == lot.whole) {
                return many;
            }
        }
        return NONE;
    }

    public int worth(int question) {
        if (!now.has(question)) {
            return NOTHING;
        }
        if (now.out[question] != 0) {
            return 0;
        }
        spreadKnown(question, LEVELS - 1);
        int well = Lot.millionths(lot.atLeast(now.terms[WANTED]), lot.whole);
        spreadKnown(question, 0);
        return well - Lot.millionths(lot.atLeast(now.terms[WANTED]), lot.whole);
    }

    public long best(int hours, int part) {
        if (hours < 0 || hours > HOURS_MOST || part < 0 || part > 2) {
            return NONE;
        }
        planner.refresh();
        planner.choose(hours);
        if (part == 2) {
            return planner.bestHours;
        }
        return Lot.lowest(planner.bestWays, planner.whole, part);
    }

    public int level(int hours, int question) {
        if (hours < 0 || hours > HOURS_MOST || !now.inBowl(question)) {
            return NONE;
        }
        planner.refresh();
        planner.findFirst(hours);
        return planner.firstLevel[question];
    }

    public int enough(int hundredths) {
        if (hundredths < 0 || hundredths > 100) {
            return NONE;
        }
        planner.refresh();
        return planner.fewestHours(hundredths);
    }

    public int lesson(int day, int question) {
        if (day < 0 || day >= DAYS_MOST) {
            return refuse(CANT_BE);
        }
        if (!now.has(question)) {
            return refuse(NO_SUCH);
        }
        if (now.lessons >= LESSONS_MOST) {
            return refuse(NO_ROOM);
        }
        now.lessonDay[now.lessons] = day;
        now.lessonQuestion[now.lessons] = question;
        now.lessons++;
        now.version++;
        return accept(now.lessons);
    }

    public int clear() {
        int had = now.lessons;
        now.lessons = 0;
        now.version++;
        return had;
    }

    public int behind(int day, int question) {
        if (day < 0 || day >= now.terms[DAYS] || question != NONE && !now.has(question)) {
            return NONE;
        }
        diary.refresh();
        return question == NONE ? diary.learned[day] : diary.levelBehind(day, question);
    }

    public int judge(int what) {
        diary.refresh();
        switch (what) {
            case 0: return diary.dropped;
            case 1: return diary.firstDropped;
            case 2: return diary.falls;
            default: return NONE;
        }
    }

    public int learn() {
        diary.refresh();
        int lastDay = now.terms[DAYS] - 1;
        for (int q = 0; q < now.questions; q++) {
            now.known[q] = diary.levelBehind(lastDay, q);
        }
        return accept(now.knownCount());
    }

    public int backward(int question, int level) {
        if (level < 1 || level >= LEVELS || question != NONE && !now.has(question)) {
            return NONE;
        }
        planner.refresh();
        laid.lay(now.terms[DAYS], now.terms[HOURS]);
        if (question == NONE) {
            return level == 1 ? laid.leftOut : laid.firstDay;
        }
        return laid.dayOf(question, level);
    }

    public int friend(int friend, int hours) {
        if (friend < 0 || friend >= FRIENDS || hours < 0 || hours > 99) {
            return refuse(CANT_BE);
        }
        int was = now.friendHours[friend];
        now.friendHours[friend] = hours;
        return accept(was);
    }

    public int share(int question) {
        if (question != NONE && !now.has(question)) {
            return NONE;
        }
        sharing.refresh();
        if (question == NONE) {
            return sharing.together;
        }
        return question < SHARED_MOST ? sharing.who[question] : NONE;
    }

    public int ill(int days, int hours) {
        if (days < 0 || days > 3 || hours < 0 || hours > 100) {
            return NONE;
        }
        planner.refresh();
        int lost = now.terms[ILL];
        long ways = 0;
        long all = 1;
        for (int left = 0; left <= days; left++) {
            planner.choose(left * hours);
            long weight = lot.sets(days, left);
            for (int day = 0; day < days; day++) {
                weight *= day < left ? 100 - lost : lost;
            }
            ways += weight * planner.bestWays;
        }
        for (int day = 0; day < days; day++) {
            all *= 100;
        }
        return Lot.millionths(ways, all * planner.whole);
    }

    public int year(int drawn) {
        if (!now.allThere(drawn)) {
            return refuse(CANT_BE);
        }
        if (now.yearCount >= YEARS_MOST) {
            return refuse(NO_ROOM);
        }
        now.addYear(drawn);
        return accept(now.yearCount);
    }

    public int row() {
        int length = tapeLength;
        tapeLength = 0;
        if (length == 0) {
            return refuse(UNREADABLE);
        }
        int came = 0;
        lostYears = 0;
        for (int at = 0; at < length; at += 4) {
            boolean whole = at + 4 <= length;
            if (whole && now.yearCount < YEARS_MOST && now.allThere(intOnTape(at))) {
                now.addYear(intOnTape(at));
                came++;
            } else {
                lostYears++;
            }
        }
        return accept(came);
    }

    public int lost() {
        return lostYears;
    }

    public int drawn(int question, int what) {
        if (!now.has(question)) {
            return NONE;
        }
        if (what == 0) {
            return now.timesDrawn(question);
        }
        return what == 1 ? now.yearsAgo(question) : NONE;
    }

    public int seldom(int question) {
        if (question != NONE && !now.has(question) || now.questions == 0) {
            return NONE;
        }
        if (question != NONE) {
            return rarity.noMoreThan(now.timesDrawn(question), now);
        }
        int fewest = YEARS_MOST;
        for (int q = 0; q < now.questions; q++) {
            fewest = Math.min(fewest, now.timesDrawn(q));
        }
        return Math.min(MILLION, now.questions * rarity.noMoreThan(fewest, now));
    }

    public int exam(int seed) {
        if (seed < 0 || seed > SEED_MOST) {
            return refuse(CANT_BE);
        }
        sitting.begin(seed);
        sitting.sit();
        latestExam[0] = sitting.lying;
        latestExam[1] = sitting.answered;
        latestExam[2] = sitting.rightOnes;
        return accept(Integer.bitCount(sitting.rightOnes));
    }

    public int table(int what) {
        return what < 0 || what >= latestExam.length ? NONE : latestExam[what];
    }

    public int exams(int n, int seed) {
        if (n < 1 || n > 500 || seed < 0 || seed > SEED_MOST) {
            return NONE;
        }
        sitting.begin(seed);
        int passed = 0;
        for (int i = 0; i < n; i++) {
            sitting.sit();
            if (Integer.bitCount(sitting.rightOnes) >= now.terms[WANTED]) {
                passed++;
            }
        }
        return passed;
    }

    public int image(int k) {
        if (k < 0 || k >= IMAGES) {
            return refuse(CANT_BE);
        }
        images[k].copyFrom(now);
        imageKept[k] = true;
        return accept(0);
    }

    public int back(int k) {
        if (k < 0 || k >= IMAGES) {
            return refuse(CANT_BE);
        }
        if (!imageKept[k]) {
            return refuse(NO_SUCH);
        }
        now.copyFrom(images[k]);
        return accept(0);
    }

    public int count(int what) {
        switch (what) {
            case 0: return now.questions;
            case 1: return now.bowlSize();
            case 2: return now.paperCount;
            case 3: return now.lessons;
            case 4: return now.yearCount;
            case 5: return now.knownCount();
            case 6: return tapeLength;
            case 7: return refusals[1];
            case 8: return refusals[2];
            case 9: return refusals[3];
            case 10: return refusals[5];
            case 11: return refusals[6];
            case 12: return now.inUse;
            default: return NONE;
        }
    }

    public int status() {
        return latestRefusal;
    }

    private int refuse(int by) {
        latestRefusal = by;
        if (-by > 0 && -by < refusals.length) {
            refusals[-by]++;
        }
        return by;
    }

    private int accept(int answer) {
        latestRefusal = NOT_REFUSED;
        return answer;
    }

    private void putBytes(int number) {
        for (int shift = 24; shift >= 0 && tapeLength < TAPE_MOST; shift -= 8) {
            tape[tapeLength] = number >>> shift & 255;
            tapeLength++;
        }
    }

    private int intOnTape(int at) {
        int number = 0;
        for (int i = at; i < at + 4 && i < TAPE_MOST; i++) {
            number = number << 8 | tape[i];
        }
        return number;
    }

    /** The lots by what is known, with one question (or NONE) as if it had a level. */
    private void spreadKnown(int question, int level) {
        lot.setChances(teller);
        lot.empty();
        for (int q = 0; q < now.questions; q++) {
            if (now.out[q] == 0) {
                lot.put(q == question ? level : now.known[q], now.liked[q]);
            }
        }
        lot.spread(now.terms[LIE], now.terms[ANSWERS], now.terms[LEAN]);
    }

    /** The lots if so many in the bowl were known well; the chances must have been set. */
    private void spreadSure(int many) {
        int all = now.bowlSize();
        lot.empty();
        for (int i = 0; i < all; i++) {
            lot.put(i < many ? LEVELS - 1 : 0, 0);
        }
        lot.spread(now.terms[LIE], now.terms[ANSWERS], 0);
    }

    /** All that an image keeps. */
    private static final class State {
        final int[] king = new int[QUESTIONS_MOST];
        final int[] pages = new int[QUESTIONS_MOST];
        final int[] known = new int[QUESTIONS_MOST];
        final int[] liked = new int[QUESTIONS_MOST];
        final int[] out = new int[QUESTIONS_MOST];
        int questions;
        final int[] terms = TERMS_AT_FIRST.clone();
        final Paper[] papers = new Paper[PAPERS_MOST];
        int paperCount;
        int inUse = NONE;
        final int[] lessonDay = new int[LESSONS_MOST];
        final int[] lessonQuestion = new int[LESSONS_MOST];
        int lessons;
        final int[] friendHours = new int[FRIENDS];
        final int[] years = new int[YEARS_MOST];
        int yearCount;
        /** Grows with each change of what lessons take, keep or are for: plans are kept by it. */
        int pricesVersion;
        /** Grows with that and with each change of terms and lessons. */
        int version;

        void copyFrom(State other) {
            System.arraycopy(other.king, 0, king, 0, QUESTIONS_MOST);
            System.arraycopy(other.pages, 0, pages, 0, QUESTIONS_MOST);
            System.arraycopy(other.known, 0, known, 0, QUESTIONS_MOST);
            System.arraycopy(other.liked, 0, liked, 0, QUESTIONS_MOST);
            System.arraycopy(other.out, 0, out, 0, QUESTIONS_MOST);
            questions = other.questions;
            System.arraycopy(other.terms, 0, terms, 0, TERMS);
            for (int i = 0; i < PAPERS_MOST; i++) {
                papers[i] = other.papers[i];
            }
            paperCount = other.paperCount;
            inUse = other.inUse;
            System.arraycopy(other.lessonDay, 0, lessonDay, 0, LESSONS_MOST);
            System.arraycopy(other.lessonQuestion, 0, lessonQuestion, 0, LESSONS_MOST);
            lessons = other.lessons;
            System.arraycopy(other.friendHours, 0, friendHours, 0, FRIENDS);
            System.arraycopy(other.years, 0, years, 0, YEARS_MOST);
            yearCount = other.yearCount;
            pricesChanged();
        }

        void pricesChanged() {
            pricesVersion++;
            version++;
        }

        int addQuestion(int ofKing, int ofPages) {
            int number = questions;
            if (number >= QUESTIONS_MOST) {
                return NONE;
            }
            king[number] = ofKing;
            pages[number] = ofPages;
            known[number] = 0;
            liked[number] = 0;
            out[number] = 0;
            questions++;
            pricesChanged();
            return number;
        }

        void addYear(int bits) {
            if (yearCount < YEARS_MOST) {
                years[yearCount] = bits;
                yearCount++;
            }
        }

        boolean has(int question) {
            return question >= 0 && question < questions;
        }

        boolean inBowl(int question) {
            return has(question) && out[question] == 0;
        }

        boolean allThere(int bits) {
            return bits >>> questions == 0;
        }

        int bowlSize() {
            int size = 0;
            for (int q = 0; q < questions; q++) {
                size += 1 - out[q];
            }
            return size;
        }

        int knownCount() {
            int many = 0;
            for (int q = 0; q < questions; q++) {
                if (known[q] > 0) {
                    many++;
                }
            }
            return many;
        }

        int timesDrawn(int question) {
            int times = 0;
            for (int i = 0; i < yearCount; i++) {
                times += years[i] >>> question & 1;
            }
            return times;
        }

        int yearsAgo(int question) {
            for (int ago = 0; ago < yearCount; ago++) {
                if ((years[yearCount - 1 - ago] >>> question & 1) == 1) {
                    return ago;
                }
            }
            return NONE;
        }

        Paper paperInUse() {
            return inUse < 0 || inUse >= paperCount ? null : papers[inUse];
        }
    }

    /** A text that was read, as steps for a stack; never changed, so images share it. */
    private static final class Paper {
        static final int HOURS_HEAD = 0;
        static final int KEEPS_HEAD = 1;
        static final int CHANCE_HEAD = 2;

        static final int KING_WORD = 0;
        static final int PAGES_WORD = 1;
        static final int LEVEL_WORD = 2;
        static final int HELPED_WORD = 3;
        static final int LIKED_WORD = 4;
        static final int DAY_WORD = 5;
        static final int QUESTION_WORD = 6;
        static final int WORDS = 7;

        static final int NUMBER = 0;
        static final int WORD = 1;
        static final int PLUS = 2;
        static final int MINUS = 3;
        static final int TIMES = 4;
        static final int OVER = 5;
        static final int LESS = 6;
        static final int MORE = 7;
        static final int SAME = 8;
        static final int NOT = 9;
        /** Goes to the place it names if what is on top is 0; else takes that away. */
        static final int AND = 10;
        /** Goes to the place it names if what is on top is 1; else takes that away. */
        static final int OR = 11;
        static final int STEP_BITS = 4;

        static final int CLAUSES_MOST = 12;
        static final int PARTS_MOST = 50;
        static final int BRACKETS_MOST = 8;
        /** A step for each token, and one more for each clause without a test. */
        static final int STEPS_MOST = TAPE_MOST + CLAUSES_MOST;

        final int clauses;
        final int[] heads;
        /** Where each clause's steps begin; one place more tells where the last one's end. */
        final int[] begins;
        final int[] steps;

        Paper(int clauses, int[] heads, int[] begins, int[] steps) {
            this.clauses = clauses;
            this.heads = heads;
            this.begins = begins;
            this.steps = steps;
        }
    }

    /** Reads a text into a paper, or finds the token that can't go on. */
    private static final class Reader {
        /** A byte that is a token of its own is its kind; all other kinds stand above. */
        private static final int END = 256;
        private static final int STRANGE = 257;
        private static final int NUMBER = 258;
        private static final int HEAD = 259;
        private static final int WORD = 260;
        private static final int IF = 261;
        private static final int OR = 262;
        private static final int AND = 263;
        private static final int NOT = 264;

        private final int[] kinds = new int[TAPE_MOST + 1];
        private final int[] values = new int[TAPE_MOST + 1];
        private final int[] places = new int[TAPE_MOST + 1];
        /** The token one is at; it never goes beyond the END. */
        private int at;
        private int parts;
        private int clauses;
        private final int[] heads = new int[Paper.CLAUSES_MOST];
        private final int[] begins = new int[Paper.CLAUSES_MOST + 1];
        private final int[] steps = new int[Paper.STEPS_MOST];
        private int size;
        int fault = NONE;

        Paper read(int[] text, int length) {
            cutTokens(text, Math.min(length, Math.min(text.length, TAPE_MOST)));
            at = 0;
            parts = 0;
            clauses = 0;
            size = 0;
            fault = NONE;
            boolean good = clause();
            for (int i = 0; i < Paper.CLAUSES_MOST && good && kinds[at] == ';'; i++) {
                at++;
                good = clause();
            }
            if (good && kinds[at] != END) {
                good = fail();
            }
            if (!good) {
                return null;
            }
            return new Paper(clauses, Arrays.copyOf(heads, clauses),
                    Arrays.copyOf(begins, clauses + 1), Arrays.copyOf(steps, size));
        }

        private void cutTokens(int[] text, int length) {
            int many = 0;
            int from = 0;
            while (from < length) {
                int to = from + 1;
                while (to < length && (isLetter(text[from]) && isLetter(text[to])
                        || isDigit(text[from]) && isDigit(text[to]))) {
                    to++;
                }
                if (text[from] != ' ') {
                    places[many] = from;
                    name(many, text, from, to);
                    many++;
                }
                from = to;
            }
            places[many] = length;
            kinds[many] = END;
        }

        private static boolean isLetter(int sign) {
            return sign >= 'a' && sign <= 'z';
        }

        private static boolean isDigit(int sign) {
            return sign >= '0' && sign <= '9';
        }

        private void name(int token, int[] text, int from, int to) {
            if (isDigit(text[from])) {
                nameNumber(token, text, from, to);
            } else if (isLetter(text[from])) {
                int found = placeOf(text, from, to, "hours keeps chance ");
                kinds[token] = found == NONE ? STRANGE : HEAD;
                if (found == NONE) {
                    found = placeOf(text, from, to, "king pages level helped liked day question ");
                    kinds[token] = found == NONE ? STRANGE : WORD;
                }
                values[token] = found;
                if (found == NONE) {
                    found = placeOf(text, from, to, "if or and not ");
                    kinds[token] = found == NONE ? STRANGE : IF + found;
                }
            } else {
                kinds[token] = text[from];
            }
        }

        private void nameNumber(int token, int[] text, int from, int to) {
            int number = 0;
            for (int i = from; i < to && number <= 1000; i++) {
                number = number * 10 + text[i] - '0';
            }
            kinds[token] = number > 1000 ? STRANGE : NUMBER;
            values[token] = number;
        }

        /** Which of some words, each with a blank behind it, the text holds there. */
        private static int placeOf(int[] text, int from, int to, String words) {
            int word = 0;
            int begin = 0;
            for (int i = 0; i < words.length(); i++) {
                if (words.charAt(i) == ' ') {
                    boolean same = i - begin == to - from;
                    for (int j = begin; same && j < i; j++) {
                        same = text[from + j - begin] == words.charAt(j);
                    }
                    if (same) {
                        return word;
                    }
                    word++;
                    begin = i + 1;
                }
            }
            return NONE;
        }

        private boolean clause() {
            if (clauses >= Paper.CLAUSES_MOST || kinds[at] != HEAD) {
                return fail();
            }
            heads[clauses] = values[at];
            begins[clauses] = size;
            at++;
            if (!sum(0)) {
                return false;
            }
            if (kinds[at] == IF) {
                at++;
                if (!test(0)) {
                    return false;
                }
            } else {
                emit(Paper.NUMBER, 1);
            }
            clauses++;
            begins[clauses] = size;
            return true;
        }

        private boolean test(int depth) {
            boolean good = plain(depth);
            int either = NONE;
            for (int i = 0; i < TAPE_MOST && good && (kinds[at] == AND || kinds[at] == OR); i++) {
                if (kinds[at] == AND) {
                    at++;
                    int both = emit(Paper.AND, 0);
                    good = plain(depth);
                    leadHere(both);
                } else {
                    at++;
                    leadHere(either);
                    either = emit(Paper.OR, 0);
                    good = plain(depth);
                }
            }
            leadHere(either);
            return good;
        }

        private boolean plain(int depth) {
            int nots = 0;
            while (nots < TAPE_MOST && kinds[at] == NOT) {
                at++;
                nots++;
            }
            if (kinds[at] == '(') {
                if (depth >= Paper.BRACKETS_MOST) {
                    return fail();
                }
                at++;
                if (!test(depth + 1) || kinds[at] != ')') {
                    return fail();
                }
                at++;
            } else {
                boolean good = sum(depth);
                int kind = kinds[at];
                if (!good || kind != '<' && kind != '>' && kind != '=') {
                    return fail();
                }
                at++;
                if (!sum(depth)) {
                    return false;
                }
                emit(kind == '<' ? Paper.LESS : kind == '>' ? Paper.MORE : Paper.SAME, 0);
            }
            if (nots % 2 == 1) {
                emit(Paper.NOT, 0);
            }
            return true;
        }

        private boolean sum(int depth) {
            boolean good = part(depth);
            int waiting = NONE;
            for (int i = 0; i < TAPE_MOST && good; i++) {
                int kind = kinds[at];
                if (kind == '+' || kind == '-') {
                    at++;
                    emit(waiting, 0);
                    waiting = kind == '+' ? Paper.PLUS : Paper.MINUS;
                    good = part(depth);
                } else if (kind == '*' || kind == '/') {
                    at++;
                    good = part(depth);
                    emit(kind == '*' ? Paper.TIMES : Paper.OVER, 0);
                } else {
                    break;
                }
            }
            emit(waiting, 0);
            return good;
        }

        private boolean part(int depth) {
            if (kinds[at] == '[') {
                if (depth >= Paper.BRACKETS_MOST) {
                    return fail();
                }
                at++;
                if (!sum(depth + 1) || kinds[at] != ']') {
                    return fail();
                }
                at++;
                return true;
            }
            boolean fits = kinds[at] == NUMBER || kinds[at] == WORD;
            if (!fits || parts >= Paper.PARTS_MOST) {
                return fail();
            }
            parts++;
            emit(kinds[at] == NUMBER ? Paper.NUMBER : Paper.WORD, values[at]);
            at++;
            return true;
        }

        /** Keeps the first fault alone: those behind it only follow from it. */
        private boolean fail() {
            if (fault == NONE) {
                fault = places[at];
            }
            return false;
        }

        /** A step comes behind the others: its place. NONE for no step. */
        private int emit(int step, int with) {
            if (step == NONE || size >= Paper.STEPS_MOST) {
                return NONE;
            }
            steps[size] = with << Paper.STEP_BITS | step;
            size++;
            return size - 1;
        }

        private void leadHere(int place) {
            if (place >= 0 && place < size) {
                steps[place] |= size << Paper.STEP_BITS;
            }
        }
    }

    /** Tells by the paper in use what a lesson takes, how long it keeps, how good a level is. */
    private static final class Teller {
        static final int AGAIN = 1;
        private static final long FAR = 1_000_000_000L;

        private final State state;
        private final int[] asked = new int[Paper.WORDS];
        /** Each value on it comes from a part of its own, but for the 1 of a lacking test. */
        private final long[] stack = new long[Paper.PARTS_MOST + 2];
        private int top;

        Teller(State state) {
            this.state = state;
        }

        int hoursOf(int question, int level, int helped, int day) {
            ask(question, level);
            asked[Paper.HELPED_WORD] = helped;
            asked[Paper.DAY_WORD] = day;
            return told(Paper.HOURS_HEAD, 4, 1, 20);
        }

        int daysKept(int question, int level) {
            ask(question, level);
            return told(Paper.KEEPS_HEAD, 10, 1, 30);
        }

        int chanceOf(int level) {
            ask(NONE, level);
            return told(Paper.CHANCE_HEAD, 50 * level, 0, 100);
        }

        private void ask(int question, int level) {
            Arrays.fill(asked, 0);
            asked[Paper.LEVEL_WORD] = level;
            if (state.has(question)) {
                asked[Paper.KING_WORD] = state.king[question];
                asked[Paper.PAGES_WORD] = state.pages[question];
                asked[Paper.LIKED_WORD] = state.liked[question];
                asked[Paper.QUESTION_WORD] = question;
            }
        }

        private int told(int head, int without, int least, int most) {
            Paper paper = state.paperInUse();
            if (paper == null) {
                return without;
            }
            for (int c = paper.clauses - 1; c >= 0; c--) {
                if (paper.heads[c] == head && holds(paper, paper.begins[c], paper.begins[c + 1])) {
                    return (int) Math.max(least, Math.min(most, stack[0]));
                }
            }
            return without;
        }

        /** Leaves the clause's sum at the bottom of the stack and its test above that. */
        private boolean holds(Paper paper, int from, int to) {
            int at = from;
            top = 0;
            for (int i = 0; i < Paper.STEPS_MOST && at >= 0 && at < to; i++) {
                int step = paper.steps[at] & (1 << Paper.STEP_BITS) - 1;
                int with = paper.steps[at] >> Paper.STEP_BITS;
                at++;
                if (step == Paper.NUMBER) {
                    push(with);
                } else if (step == Paper.WORD) {
                    push(asked[with]);
                } else if (step == Paper.AND || step == Paper.OR) {
                    boolean settled = top > 0 && stack[top - 1] == (step == Paper.OR ? 1 : 0);
                    if (settled) {
                        at = with;
                    } else {
                        top--;
                    }
                } else if (!operate(step)) {
                    return false;
                }
            }
            return top == 2 && stack[1] == 1;
        }

        private void push(int value) {
            if (top >= 0 && top < stack.length) {
                stack[top] = value;
                top++;
            }
        }

        /** False: what it makes is broken, and so is all that asks for it. */
        private boolean operate(int step) {
            if (step == Paper.NOT) {
                if (top < 1) {
                    return false;
                }
                stack[top - 1] = 1 - stack[top - 1];
                return true;
            }
            if (top < 2 || step == Paper.OVER && stack[top - 1] == 0) {
                return false;
            }
            top--;
            long left = stack[top - 1];
            long other = stack[top];
            long made;
            switch (step) {
                case Paper.PLUS: made = left + other; break;
                case Paper.MINUS: made = left - other; break;
                case Paper.TIMES: made = left * other; break;
                case Paper.OVER: made = left / other; break;
                case Paper.LESS: made = left < other ? 1 : 0; break;
                case Paper.MORE: made = left > other ? 1 : 0; break;
                default: made = left == other ? 1 : 0;
            }
            stack[top - 1] = made;
            return made >= -FAR && made <= FAR;
        }
    }

    /**
     * How the lots fall. Of each set that can lie there the odds are counted in millionths
     * (three answers of a hundred each), so all stays whole numbers below 4e15.
     */
    private static final class Lot {
        private static final int SIDE = QUESTIONS_MOST + 1;

        private final int[] setsOf = new int[SIDE * SIDE];
        private final int[] chance = new int[LEVELS];
        /** The levels, those with the greatest chance ahead. */
        private final int[] ranked = new int[LEVELS];
        private final int[] inBowl = new int[LEVELS];
        private final int[] likedOnes = new int[LEVELS];
        private final long[] ofOneSet = new long[RIGHT_MOST + 1];
        private final long[] ofAll = new long[RIGHT_MOST + 1];
        long whole = 1;

        Lot() {
            for (int n = 0; n < SIDE; n++) {
                setsOf[n * SIDE] = 1;
                for (int k = 1; k <= n; k++) {
                    setsOf[n * SIDE + k] = setsOf[(n - 1) * SIDE + k - 1] + setsOf[(n - 1) * SIDE + k];
                }
            }
        }

        long sets(int n, int k) {
            return k < 0 || n < k || n >= SIDE ? 0 : setsOf[n * SIDE + k];
        }

        void setChances(Teller teller) {
            for (int level = 0; level < LEVELS; level++) {
                chance[level] = teller.chanceOf(level);
                int at = level;
                while (at > 0 && chance[ranked[at - 1]] < chance[level]) {
                    ranked[at] = ranked[at - 1];
                    at--;
                }
                ranked[at] = level;
            }
        }

        void empty() {
            Arrays.fill(inBowl, 0);
            Arrays.fill(likedOnes, 0);
        }

        void put(int level, int liked) {
            if (level >= 0 && level < LEVELS) {
                inBowl[level]++;
                likedOnes[level] += liked;
            }
        }

        void spread(int lie, int answers, int lean) {
            int all = inBowl[0] + inBowl[1] + inBowl[2];
            int liked = likedOnes[0] + likedOnes[1] + likedOnes[2];
            int lying = Math.min(lie, all);
            Arrays.fill(ofAll, 0);
            whole = sets(all, lying) * MILLION;
            if (liked == 0 || lie >= all || lean == 0) {
                addSets(lying, answers, NONE, 1);
                return;
            }
            // sets(all, lying) = sets(all - 1, lying - 1) * all / lying puts both under one number
            addSets(lying, answers, NONE, (100L - lean) * liked * lying);
            for (int level = 0; level < LEVELS; level++) {
                if (likedOnes[level] > 0) {
                    addSets(lying, answers, level, (long) lean * all * likedOnes[level]);
                }
            }
            whole *= 100L * liked * lying;
        }

        /** With a level (not NONE) one of that lies there already, and is not drawn again. */
        private void addSets(int lying, int answers, int level, long times) {
            int from0 = level == 0 ? 1 : 0;
            int from1 = level == 1 ? 1 : 0;
            int from2 = level == 2 ? 1 : 0;
            for (int one = from1; one <= lying; one++) {
                for (int two = from2; two <= lying - one; two++) {
                    int none = lying - one - two;
                    long ways = sets(inBowl[0] - from0, none - from0)
                            * sets(inBowl[1] - from1, one - from1)
                            * sets(inBowl[2] - from2, two - from2);
                    if (ways > 0) {
                        answer(none, one, two, answers);
                        for (int many = 0; many <= RIGHT_MOST; many++) {
                            ofAll[many] += times * ways * ofOneSet[many];
                        }
                    }
                }
            }
        }

        /** Of a set with so many of each level: how likely so many are right, in millionths. */
        private void answer(int none, int one, int two, int answers) {
            int left = answers;
            Arrays.fill(ofOneSet, 0);
            ofOneSet[0] = 1;
            for (int rank = 0; rank < LEVELS; rank++) {
                int level = ranked[rank];
                int lying = level == 0 ? none : level == 1 ? one : two;
                for (int i = 0; i < lying && left > 0; i++) {
                    answerOne(chance[level]);
                    left--;
                }
            }
            for (int asked = answers - left; asked < RIGHT_MOST; asked++) {
                for (int many = 0; many <= RIGHT_MOST; many++) {
                    ofOneSet[many] *= 100;
                }
            }
        }

        private void answerOne(int hundredths) {
            for (int many = RIGHT_MOST; many > 0; many--) {
                ofOneSet[many] = ofOneSet[many] * (100 - hundredths) + ofOneSet[many - 1] * hundredths;
            }
            ofOneSet[0] *= 100 - hundredths;
        }

        /** Of a set with so many of levels 1 and 2 (the others 0): the odds to pass, in millionths. */
        long passing(int lying, int one, int two, int answers, int wanted) {
            answer(lying - one - two, one, two, answers);
            long ways = 0;
            for (int many = wanted; many <= RIGHT_MOST; many++) {
                ways += many < 0 ? 0 : ofOneSet[many];
            }
            return ways;
        }

        long just(int many) {
            return many < 0 || many > RIGHT_MOST ? 0 : ofAll[many];
        }

        long atLeast(int wanted) {
            long ways = 0;
            for (int many = wanted; many <= RIGHT_MOST; many++) {
                ways += just(many);
            }
            return ways;
        }

        long fraction(long ways, int part) {
            return lowest(ways, whole, part);
        }

        static long lowest(long ways, long of, int part) {
            if (part < 0 || part > 1 || of <= 0) {
                return NONE;
            }
            long a = of;
            long b = ways;
            // Euclid's way halves the smaller one every two steps
            for (int i = 0; i < 200 && b != 0; i++) {
                long rest = a % b;
                a = b;
                b = rest;
            }
            return a == 0 ? NONE : (part == 0 ? ways : of) / a;
        }

        /** Digit by digit, for ways times a million may be beyond a long. */
        static int millionths(long ways, long of) {
            if (of <= 0) {
                return NONE;
            }
            long told = ways / of;
            long rest = ways % of;
            for (int digit = 0; digit < 6; digit++) {
                rest *= 10;
                told = told * 10 + rest / of;
                rest %= of;
            }
            return (int) told;
        }
    }

    /**
     * Finds the best schemes. How likely one passes hangs only on how many have level 1 and 2, so
     * the fewest hours for each such pair are all that is kept; they are built from the last
     * question back, for each set of kings of which a lower one has a level already.
     */
    private static final class Planner {
        private static final int FAR = 100_000;
        /** Pairs (level 1, level 2) for up to 20. */
        private static final int PAIRS_MOST = 231;

        private final State state;
        private final Teller teller;
        private final Lot lot;
        private int seenPrices = NONE;
        private int seenVersion = NONE;
        private int size;
        private final int[] bowl = new int[QUESTIONS_MOST];
        /** By place in the bowl, helped or not, level: the hours of all lessons up to it. */
        private final int[] prices = new int[QUESTIONS_MOST * 2 * LEVELS];
        /** By place in the bowl: the bit of its king, NONE if help changes nothing for that. */
        private final int[] kingBit = new int[QUESTIONS_MOST];
        private final int[] bitsAhead = new int[QUESTIONS_MOST + 1];
        private final int[] offset = new int[QUESTIONS_MOST + 1];
        /** Grows as bowls and kings ask for it: 28,336 at most, but few objects need so many. */
        private int[] fewest = new int[PAIRS_MOST];
        private final long[] passWays = new long[PAIRS_MOST];
        private final long[] setPasses = new long[(LIE_MOST + 1) * (LIE_MOST + 1)];
        private int firstHours = NONE;
        /** By question; NONE: it is out. */
        final int[] firstLevel = new int[QUESTIONS_MOST];
        /** By question: 1 if it is helped, or 0. */
        final int[] firstHelped = new int[QUESTIONS_MOST];
        long whole = 1;
        long bestWays;
        int bestHours;

        Planner(State state, Teller teller, Lot lot) {
            this.state = state;
            this.teller = teller;
            this.lot = lot;
        }

        void refresh() {
            if (seenVersion == state.version) {
                return;
            }
            seenVersion = state.version;
            firstHours = NONE;
            if (seenPrices != state.pricesVersion) {
                seenPrices = state.pricesVersion;
                fillHours();
            }
            weighPairs();
        }

        private void fillHours() {
            size = 0;
            for (int q = 0; q < state.questions; q++) {
                if (state.out[q] == 0) {
                    bowl[size] = q;
                    price(size, q);
                    size++;
                }
            }
            nameKings();
            int used = 0;
            for (int i = 0; i <= size; i++) {
                offset[i] = used;
                used += pairs(size - i) << bitsAhead[i];
            }
            if (fewest.length < used) {
                fewest = new int[Math.max(used, 2 * fewest.length)];
            }
            for (int i = size; i >= 0; i--) {
                fillFrom(i);
            }
        }

        private static int pairs(int many) {
            return (many + 1) * (many + 2) / 2;
        }

        private static int pairPlace(int one, int two) {
            return (one + two) * (one + two + 1) / 2 + two;
        }

        private static int priceAt(int place, int helped, int level) {
            return (place * 2 + helped) * LEVELS + level;
        }

        private void price(int place, int question) {
            for (int helped = 0; helped <= 1; helped++) {
                int hours = 0;
                for (int level = 1; level < LEVELS; level++) {
                    hours += teller.hoursOf(question, level, helped, 0);
                    prices[priceAt(place, helped, level)] = hours;
                }
            }
        }

        private boolean helpMatters(int king) {
            for (int i = 0; i < size; i++) {
                if (state.king[bowl[i]] == king
                        && (prices[priceAt(i, 0, 1)] != prices[priceAt(i, 1, 1)]
                        || prices[priceAt(i, 0, 2)] != prices[priceAt(i, 1, 2)])) {
                    return true;
                }
            }
            return false;
        }

        /** Bits go to kings as they are met, so that few sets of them stand at the low places. */
        private void nameKings() {
            int bits = 0;
            for (int i = 0; i < size; i++) {
                bitsAhead[i] = bits;
                int king = state.king[bowl[i]];
                kingBit[i] = NONE;
                for (int j = 0; j < i; j++) {
                    if (state.king[bowl[j]] == king) {
                        kingBit[i] = kingBit[j];
                    }
                }
                if (kingBit[i] == NONE && king != 0 && helpMatters(king)) {
                    kingBit[i] = bits;
                    bits++;
                }
            }
            bitsAhead[size] = bits;
        }

        private int helpedBy(int place, int kings) {
            return kingBit[place] == NONE ? 0 : kings >>> kingBit[place] & 1;
        }

        private int kingsWith(int place, int kings) {
            return kingBit[place] == NONE ? kings : kings | 1 << kingBit[place];
        }

        private int rowAt(int place, int kings) {
            return offset[place] + kings * pairs(size - place);
        }

        private void fillFrom(int place) {
            int left = size - place;
            for (int kings = 0; kings < 1 << bitsAhead[place]; kings++) {
                int row = rowAt(place, kings);
                if (left == 0) {
                    fewest[row] = 0;
                    continue;
                }
                int helped = helpedBy(place, kings);
                int toOne = prices[priceAt(place, helped, 1)];
                int toTwo = prices[priceAt(place, helped, 2)];
                int without = rowAt(place + 1, kings);
                int with = rowAt(place + 1, kingsWith(place, kings));
                for (int both = 0; both <= left; both++) {
                    int here = row + both * (both + 1) / 2;
                    int lower = with + both * (both - 1) / 2;
                    int same = without + both * (both + 1) / 2;
                    for (int two = 0; two <= both; two++) {
                        int least = both < left ? fewest[same + two] : FAR;
                        if (two < both) {
                            least = Math.min(least, toOne + fewest[lower + two]);
                        }
                        if (two > 0) {
                            least = Math.min(least, toTwo + fewest[lower + two - 1]);
                        }
                        fewest[here + two] = least;
                    }
                }
            }
        }

        private void weighPairs() {
            int lying = Math.min(state.terms[LIE], size);
            lot.setChances(teller);
            whole = lot.sets(size, lying) * MILLION;
            for (int one = 0; one <= lying; one++) {
                for (int two = 0; two <= lying - one; two++) {
                    setPasses[one * (LIE_MOST + 1) + two] =
                            lot.passing(lying, one, two, state.terms[ANSWERS], state.terms[WANTED]);
                }
            }
            for (int one = 0; one <= size; one++) {
                for (int two = 0; two <= size - one; two++) {
                    passWays[pairPlace(one, two)] = waysOf(one, two, lying);
                }
            }
        }

        private long waysOf(int one, int two, int lying) {
            long ways = 0;
            int none = size - one - two;
            for (int i = 0; i <= one && i <= lying; i++) {
                for (int j = Math.max(0, lying - i - none); j <= two && i + j <= lying; j++) {
                    long pass = setPasses[i * (LIE_MOST + 1) + j];
                    if (pass > 0) {
                        ways += pass * lot.sets(one, i) * lot.sets(two, j) * lot.sets(none, lying - i - j);
                    }
                }
            }
            return ways;
        }

        /** The best of those that take no more hours; it must be fresh. */
        void choose(int hours) {
            bestWays = NONE;
            bestHours = 0;
            for (int pair = 0; pair < pairs(size); pair++) {
                int takes = fewest[offset[0] + pair];
                if (takes <= hours && (passWays[pair] > bestWays
                        || passWays[pair] == bestWays && takes < bestHours)) {
                    bestWays = passWays[pair];
                    bestHours = takes;
                }
            }
        }

        int fewestHours(int hundredths) {
            int least = FAR;
            for (int pair = 0; pair < pairs(size); pair++) {
                if (passWays[pair] * 100 >= whole * hundredths) {
                    least = Math.min(least, fewest[offset[0] + pair]);
                }
            }
            return least > HOURS_MOST ? NONE : least;
        }

        /** The first row of levels among the best; it must be fresh. */
        void findFirst(int hours) {
            if (firstHours == hours) {
                return;
            }
            firstHours = hours;
            choose(hours);
            Arrays.fill(firstLevel, NONE);
            Arrays.fill(firstHelped, 0);
            int one = 0;
            int two = 0;
            int kings = 0;
            int spent = 0;
            for (int i = 0; i < size; i++) {
                int helped = helpedBy(i, kings);
                int level = 0;
                if (!canStillBe(i, kings, one, two, spent)) {
                    kings = kingsWith(i, kings);
                    level = 1;
                    one++;
                    if (!canStillBe(i, kings, one, two, spent + prices[priceAt(i, helped, 1)])) {
                        level = 2;
                        one--;
                        two++;
                    }
                }
                spent += level == 0 ? 0 : prices[priceAt(i, helped, level)];
                firstLevel[bowl[i]] = level;
                firstHelped[bowl[i]] = helped;
            }
        }

        /** Whether a best scheme goes on behind a place, with so many of each level up to it. */
        private boolean canStillBe(int place, int kings, int one, int two, int spent) {
            int left = size - place - 1;
            int row = rowAt(place + 1, kings);
            for (int moreOne = 0; moreOne <= left; moreOne++) {
                for (int moreTwo = 0; moreTwo <= left - moreOne; moreTwo++) {
                    if (spent + fewest[row + pairPlace(moreOne, moreTwo)] == bestHours
                            && passWays[pairPlace(one + moreOne, two + moreTwo)] == bestWays) {
                        return true;
                    }
                }
            }
            return false;
        }

        int firstTakes(int question, int level) {
            return teller.hoursOf(question, level, firstHelped[question], 0);
        }
    }

    /** Lays the lessons of the best scheme from the last day back. */
    private static final class Backward {
        private final Planner planner;
        private final int[] days = new int[QUESTIONS_MOST * LEVELS];
        private int dayAt;
        private int hoursLeft;
        private int hoursOfDay;
        int leftOut;
        int firstDay = NONE;

        Backward(Planner planner) {
            this.planner = planner;
        }

        void lay(int howManyDays, int hours) {
            planner.findFirst(howManyDays * hours);
            Arrays.fill(days, NONE);
            leftOut = 0;
            firstDay = NONE;
            dayAt = howManyDays - 1;
            hoursOfDay = hours;
            hoursLeft = hours;
            for (int wanted = LEVELS - 1; wanted > 0; wanted--) {
                for (int q = 0; q < QUESTIONS_MOST; q++) {
                    if (planner.firstLevel[q] == wanted) {
                        layAll(q, wanted);
                    }
                }
            }
        }

        private void layAll(int question, int level) {
            for (int to = level; to > 0; to--) {
                int takes = planner.firstTakes(question, to);
                while (dayAt >= 0 && takes > hoursLeft) {
                    dayAt--;
                    hoursLeft = hoursOfDay;
                }
                if (dayAt < 0) {
                    leftOut++;
                } else {
                    hoursLeft -= takes;
                    days[question * LEVELS + to] = dayAt;
                    firstDay = dayAt;
                }
            }
        }

        int dayOf(int question, int level) {
            return days[question * LEVELS + level];
        }
    }

    /** What is learned and forgotten day by day, if the lessons are held as they were told. */
    private static final class Diary {
        private final State state;
        private final Teller teller;
        private int seenVersion = NONE;
        private final int[] level = new int[QUESTIONS_MOST];
        private final int[] latest = new int[QUESTIONS_MOST];
        private final int[] behindDays = new int[DAYS_MOST * QUESTIONS_MOST];
        final int[] learned = new int[DAYS_MOST];
        int dropped;
        int firstDropped = NONE;
        int falls;

        Diary(State state, Teller teller) {
            this.state = state;
            this.teller = teller;
        }

        int levelBehind(int day, int question) {
            return behindDays[day * QUESTIONS_MOST + question];
        }

        void refresh() {
            if (seenVersion == state.version) {
                return;
            }
            seenVersion = state.version;
            Arrays.fill(level, 0);
            Arrays.fill(latest, 0);
            dropped = 0;
            firstDropped = NONE;
            falls = 0;
            for (int day = 0; day < state.terms[DAYS]; day++) {
                holdLessons(day);
                forget(day);
                System.arraycopy(level, 0, behindDays, day * QUESTIONS_MOST, QUESTIONS_MOST);
            }
        }

        private void holdLessons(int day) {
            int left = state.terms[HOURS];
            boolean full = false;
            for (int i = 0; i < state.lessons; i++) {
                if (state.lessonDay[i] == day) {
                    int question = state.lessonQuestion[i];
                    int takes = full ? 0 : hoursFor(question, day);
                    full = full || takes > left;
                    if (full) {
                        drop(day);
                    } else {
                        left -= takes;
                        level[question] = Math.min(LEVELS - 1, level[question] + 1);
                        latest[question] = day;
                    }
                }
            }
            learned[day] = state.terms[HOURS] - left;
        }

        private int hoursFor(int question, int day) {
            if (level[question] == LEVELS - 1) {
                return Teller.AGAIN;
            }
            return teller.hoursOf(question, level[question] + 1, isHelped(question) ? 1 : 0, day);
        }

        private boolean isHelped(int question) {
            int king = state.king[question];
            for (int q = 0; q < state.questions; q++) {
                if (king != 0 && q != question && state.king[q] == king && level[q] > 0) {
                    return true;
                }
            }
            return false;
        }

        private void drop(int day) {
            dropped++;
            if (firstDropped == NONE) {
                firstDropped = day;
            }
        }

        private void forget(int day) {
            for (int q = 0; q < state.questions; q++) {
                if (level[q] > 0 && day > latest[q]
                        && day - latest[q] >= teller.daysKept(q, level[q])) {
                    level[q]--;
                    latest[q] = day;
                    falls++;
                }
            }
        }
    }

    /**
     * Shares questions among friends. If so many can be learned at all, the cheapest ones can; so
     * the most are found by packing the cheapest, and the first row by packing what is left.
     */
    private static final class Sharing {
        private static final int NO_WAY = 1000;
        /** More than a friend's hours: friend times this and hours used tell how far one is. */
        private static final int SPAN = 100;

        private final State state;
        private final Teller teller;
        private int seenPrices = NONE;
        private final int[] seenHours = new int[FRIENDS];
        private int size;
        private final int[] price = new int[SHARED_MOST];
        /** The questions, cheap ones ahead. */
        private final int[] cheap = new int[SHARED_MOST];
        private final int[] left = new int[FRIENDS];
        private final int[] packed = new int[SHARED_MOST];
        /** By sets of what is packed: the least friend and hours used of that with which it is. */
        private int[] reach = new int[1];
        final int[] who = new int[SHARED_MOST];
        int together;

        Sharing(State state, Teller teller) {
            this.state = state;
            this.teller = teller;
        }

        void refresh() {
            if (seenPrices == state.pricesVersion && sameHours()) {
                return;
            }
            seenPrices = state.pricesVersion;
            System.arraycopy(state.friendHours, 0, seenHours, 0, FRIENDS);
            size = Math.min(SHARED_MOST, state.questions);
            for (int q = 0; q < size; q++) {
                price[q] = teller.hoursOf(q, 1, 0, 0) + teller.hoursOf(q, 2, 0, 0);
                sortIn(q);
            }
            System.arraycopy(state.friendHours, 0, left, 0, FRIENDS);
            together = mostOfAll();
            int wanted = together;
            for (int q = 0; q < size; q++) {
                who[q] = firstFriend(q, wanted);
                if (who[q] != NONE) {
                    wanted--;
                }
            }
        }

        private boolean sameHours() {
            for (int friend = 0; friend < FRIENDS; friend++) {
                if (seenHours[friend] != state.friendHours[friend]) {
                    return false;
                }
            }
            return true;
        }

        private void sortIn(int question) {
            int at = question;
            while (at > 0 && price[cheap[at - 1]] > price[question]) {
                cheap[at] = cheap[at - 1];
                at--;
            }
            cheap[at] = question;
        }

        private int mostOfAll() {
            int most = size;
            while (most > 0 && !canLearn(0, most)) {
                most--;
            }
            return most;
        }

        /** The first friend who can take it so that so many are learned from it on; his hours go. */
        private int firstFriend(int question, int wanted) {
            for (int friend = 0; friend < FRIENDS && wanted > 0; friend++) {
                if (price[question] <= left[friend]) {
                    left[friend] -= price[question];
                    if (canLearn(question + 1, wanted - 1)) {
                        return friend;
                    }
                    left[friend] += price[question];
                }
            }
            return NONE;
        }

        private boolean canLearn(int from, int many) {
            int taken = 0;
            int hours = 0;
            for (int i = 0; i < size && taken < many; i++) {
                if (cheap[i] >= from) {
                    packed[taken] = price[cheap[i]];
                    hours += packed[taken];
                    taken++;
                }
            }
            if (taken < many || hours > left[0] + left[1] + left[2]) {
                return false;
            }
            if (reach.length < 1 << many) {
                reach = new int[1 << many];
            }
            reach[0] = 0;
            for (int set = 1; set < 1 << many; set++) {
                int least = NO_WAY;
                for (int i = 0; i < many; i++) {
                    if ((set >>> i & 1) == 1) {
                        least = Math.min(least, withOneMore(reach[set ^ 1 << i], packed[i]));
                    }
                }
                reach[set] = least;
            }
            return reach[(1 << many) - 1] < NO_WAY;
        }

        private int withOneMore(int reached, int hours) {
            int friend = reached / SPAN;
            int used = reached % SPAN;
            while (friend < FRIENDS && used + hours > left[friend]) {
                friend++;
                used = 0;
            }
            return friend < FRIENDS ? friend * SPAN + used + hours : NO_WAY;
        }
    }

    /** Chances of counts over many years: below 2 to the 210, so in digits of 30 bits. */
    private static final class Rarity {
        private static final int DIGITS = 9;
        private static final int BITS = 30;
        private static final long MASK = (1L << BITS) - 1;

        private final long[] term = new long[DIGITS];
        private final long[] sum = new long[DIGITS];

        /** In millionths, cut: the chance to be drawn so often or less. */
        int noMoreThan(int times, State state) {
            int lie = state.terms[LIE];
            int all = state.questions;
            int rest = all - lie;
            if (rest <= 0) {
                return MILLION;
            }
            Arrays.fill(term, 0);
            term[0] = 1;
            for (int i = 0; i < state.yearCount; i++) {
                multiply(term, rest);
            }
            System.arraycopy(term, 0, sum, 0, DIGITS);
            for (int often = 1; often <= times; often++) {
                multiply(term, (state.yearCount - often + 1) * lie);
                divide(term, often * rest);
                addTerm();
            }
            multiply(sum, MILLION);
            // cutting at each of these is the same as cutting once
            for (int i = 0; i < state.yearCount; i++) {
                divide(sum, all);
            }
            return (int) sum[0];
        }

        private void addTerm() {
            long carry = 0;
            for (int i = 0; i < DIGITS; i++) {
                carry += sum[i] + term[i];
                sum[i] = carry & MASK;
                carry >>>= BITS;
            }
        }

        private static void multiply(long[] number, int by) {
            long carry = 0;
            for (int i = 0; i < number.length; i++) {
                carry += number[i] * by;
                number[i] = carry & MASK;
                carry >>>= BITS;
            }
        }

        private static void divide(long[] number, int by) {
            long rest = 0;
            for (int i = number.length - 1; i >= 0 && by > 0; i--) {
                rest = rest << BITS | number[i];
                number[i] = rest / by;
                rest %= by;
            }
        }
    }

    /** One who sits exams, by draws. */
    private static final class Sitting {
        private final State state;
        private final Teller teller;
        private final int[] chance = new int[LEVELS];
        private int seed;
        private int bowl;
        private int liked;
        int lying;
        int answered;
        int rightOnes;

        Sitting(State state, Teller teller) {
            this.state = state;
            this.teller = teller;
        }

        void begin(int withSeed) {
            seed = withSeed;
            for (int level = 0; level < LEVELS; level++) {
                chance[level] = teller.chanceOf(level);
            }
            bowl = 0;
            liked = 0;
            for (int q = 0; q < state.questions; q++) {
                bowl |= 1 - state.out[q] << q;
                liked |= state.liked[q] << q;
            }
            liked &= bowl;
        }

        void sit() {
            layOut();
            answered = 0;
            rightOnes = 0;
            for (int i = 0; i < state.terms[ANSWERS] && answered != lying; i++) {
                int question = surest(lying & ~answered);
                answered |= 1 << question;
                if (lots(100) < chance[state.known[question]]) {
                    rightOnes |= 1 << question;
                }
            }
        }

        private void layOut() {
            int lie = state.terms[LIE];
            lying = bowl;
            if (Integer.bitCount(bowl) <= lie) {
                return;
            }
            lying = 0;
            if (liked != 0 && lots(100) < state.terms[LEAN]) {
                lying = drawnOf(liked);
            }
            for (int i = Integer.bitCount(lying); i < lie; i++) {
                lying |= drawnOf(bowl & ~lying);
            }
        }

        private int lots(int of) {
            seed = (seed * 1103 + 12345) % 1_000_003;
            return of <= 0 ? 0 : seed % of;
        }

        /** One of the set bits, by lot. */
        private int drawnOf(int bits) {
            int left = bits;
            int skip = lots(Integer.bitCount(bits));
            for (int i = 0; i < skip; i++) {
                left &= left - 1;
            }
            return left & -left;
        }

        /** The one with the greatest chance, the lowest of such; the bits are not empty. */
        private int surest(int bits) {
            int found = NONE;
            for (int q = 0; q < state.questions; q++) {
                if ((bits >>> q & 1) == 1
                        && (found == NONE || chance[state.known[q]] > chance[state.known[found]])) {
                    found = q;
                }
            }
            return Math.max(found, 0);
        }
    }
}
