/**
 * Each sentence of the document that names a boundary case has a small test of its own here, told
 * by its words: the last good value and the first that is not, what is empty, what is full, and
 * what a call is refused by. The answers that are due were found by hand, as the comments tell.
 */
public final class EdgesTest {
    private static final int NONE = ExamSlips.NONE;
    private static final int NOTHING = -10_000_000;
    private static final String BILLION = "1000*1000*1000";
    /** Hours and days of a lesson in a diary, so that help and forgetting are seen. */
    private static final String HELPED = "hours 5-helped*3;keeps 2";
    private static final int LEAST = Integer.MIN_VALUE;
    private static final int MOST = Integer.MAX_VALUE;
    private static final int LIE = 0;
    private static final int ANSWERS = 1;
    private static final int WANTED = 2;
    private static final int LEAN = 3;
    private static final int ILL = 4;
    private static final int DAYS = 5;
    private static final int HOURS = 6;
    private static int wrong = 0;
    private static int sentences = 0;
    private static String words = "";

    public static void main(String[] args) {
        questionsAndTerms();
        refusals();
        tape();
        tokens();
        grammar();
        limitsOfTexts();
        faults();
        telling();
        brokenSums();
        lessonsKeepsChances();
        bowlAndLot();
        leaning();
        answersAndOdds();
        sureSafeWorth();
        schemes();
        bestAndFirst();
        enoughHours();
        diary();
        forgetting();
        backward();
        friends();
        ill();
        years();
        seldom();
        rows();
        exams();
        examsInARow();
        images();
        counts();
        statuses();
        System.out.println(wrong == 0 ? "EdgesTest: " + sentences + " sentences hold"
                : "EdgesTest: " + wrong + " answers are not as due");
        if (wrong != 0) {
            System.exit(1);
        }
    }

    /** The words of the document that the calls behind it hold it to. */
    private static void sentence(String of) {
        words = of;
        sentences++;
    }

    private static void due(String call, long got, long want) {
        if (got != want) {
            wrong++;
            System.out.println("\"" + words + "\": " + call + " answered " + got + ", due is " + want);
        }
    }

    private static void dueOdds(String call, long upper, long lower, long wantUpper, long wantLower) {
        due(call + ", upper", upper, wantUpper);
        due(call + ", lower", lower, wantLower);
    }

    private static void duePass(ExamSlips x, long upper, long lower) {
        dueOdds("pass", x.pass(0), x.pass(1), upper, lower);
    }

    private static void dueBest(ExamSlips x, int hours, long upper, long lower, long takes) {
        dueOdds("best for " + hours, x.best(hours, 0), x.best(hours, 1), upper, lower);
        due("best(" + hours + ", 2)", x.best(hours, 2), takes);
    }

    private static void dueLevels(ExamSlips x, int hours, int... levels) {
        for (int q = 0; q < levels.length; q++) {
            due("level(" + hours + ", " + q + ")", x.level(hours, q), levels[q]);
        }
    }

    private static void dueTable(ExamSlips x, int seed, int lay, int answered, int right) {
        due("exam(" + seed + ")", x.exam(seed), Integer.bitCount(right));
        due("table(0) of exam " + seed, x.table(0), lay);
        due("table(1) of exam " + seed, x.table(1), answered);
        due("table(2) of exam " + seed, x.table(2), right);
    }

    private static void dueDays(ExamSlips x, int question, int... levels) {
        for (int day = 0; day < levels.length; day++) {
            due("behind(" + day + ", " + question + ")", x.behind(day, question), levels[day]);
        }
    }

    /** So many questions of no king, 10 pages each. */
    private static ExamSlips of(int questions) {
        ExamSlips x = new ExamSlips();
        for (int i = 0; i < questions; i++) {
            x.question(0, 10);
        }
        return x;
    }

    /** So many questions; one lies there, one is answered, one right is wanted. */
    private static ExamSlips oneOf(int questions) {
        return set(of(questions), 1, 1, 1);
    }

    private static ExamSlips set(ExamSlips x, int lie, int answers, int wanted) {
        x.terms(LIE, lie);
        x.terms(ANSWERS, answers);
        x.terms(WANTED, wanted);
        return x;
    }

    private static ExamSlips knowing(ExamSlips x, int... known) {
        for (int q = 0; q < known.length; q++) {
            x.know(q, 0, known[q]);
        }
        return x;
    }

    private static ExamSlips days(ExamSlips x, int days, int hours) {
        x.terms(DAYS, days);
        x.terms(HOURS, hours);
        return x;
    }

    private static void tape(ExamSlips x, String text) {
        x.end(0);
        for (int at = 0; at < text.length(); at += 20) {
            int[] n = new int[5];
            for (int i = 0; i < 20; i++) {
                n[i / 4] = n[i / 4] << 8 | (at + i < text.length() ? text.charAt(at + i) : '?');
            }
            x.feed(n[0], n[1], n[2], n[3], n[4]);
        }
        x.end(text.length());
    }

    private static int paper(ExamSlips x, String text) {
        tape(x, text);
        return x.paper();
    }

    /** With a paper in use. */
    private static ExamSlips by(ExamSlips x, String text) {
        int paper = paper(x, text);
        due("a paper of: " + text, paper < 0 ? x.fault() : -1, -1);
        x.use(paper);
        return x;
    }

    /** What a lesson of the only question takes; 4 tells that no clause held. */
    private static int hoursBy(String text) {
        return by(of(1), text).takes(0, 1, 0);
    }

    private static void reads(String text) {
        ExamSlips x = new ExamSlips();
        due("paper() of: " + text, paper(x, text), 0);
        due("fault() of: " + text, x.fault(), NONE);
    }

    private static void faultAt(String text, int place) {
        ExamSlips x = new ExamSlips();
        due("paper() of: " + text, paper(x, text), -6);
        due("fault() of: " + text, x.fault(), place);
        due("count(2) behind: " + text, x.count(2), 0);
    }

    // Terms I and what stands at first

    private static void questionsAndTerms() {
        newObject();
        nothingIsKnownOfNoQuestions();
        kingsAndPages();
        twentyQuestions();
        knownLikedOut();
        looksAtQuestions();
        termsLeastAndMost();
    }

    private static void newObject() {
        sentence("1. A new object: no QUESTIONS, PAPERS");
        ExamSlips x = new ExamSlips();
        for (int what = 0; what < 12; what++) {
            due("count(" + what + ")", x.count(what), 0);
        }
        due("count(12)", x.count(12), NONE);
        due("of(0, 0)", x.of(0, 0), NONE);
        due("use(0)", x.use(0), -2);
        sentence("There is none: NONE = -1");
        due("NONE", ExamSlips.NONE, -1);
        sentence("HOURS 0 .. 99 each (0 at first)");
        for (int friend = 0; friend < 3; friend++) {
            due("friend(" + friend + ", 0)", x.friend(friend, 0), 0);
        }
        sentence("one is in USE (NONE at first)");
        due("use(NONE)", x.use(NONE), NONE);
        sentence("9. fault: NONE without");
        due("fault()", x.fault(), NONE);
        sentence("34. lost: 0 ahead of any");
        due("lost()", x.lost(), 0);
        sentence("38. table: of the latest EXAM; there was none");
        for (int what = 0; what < 3; what++) {
            due("table(" + what + ")", x.table(what), NONE);
        }
        sentence("43. status: 0 ahead of any");
        due("status()", new ExamSlips().status(), 0);
    }

    private static void nothingIsKnownOfNoQuestions() {
        sentence("an empty BOWL");
        ExamSlips x = new ExamSlips();
        duePass(x, 0, 1);
        dueOdds("right 0", x.right(0, 0), x.right(0, 1), 1, 1);
        dueOdds("right 1", x.right(1, 0), x.right(1, 1), 0, 1);
        dueOdds("mean", x.mean(0), x.mean(1), 0, 1);
        dueOdds("sure 0", x.sure(0, 0), x.sure(0, 1), 0, 1);
        due("sure(1, 0)", x.sure(1, 0), NONE);
        due("safe()", x.safe(), NONE);
        due("worth(0)", x.worth(0), NOTHING);
        dueBest(x, 400, 0, 1, 0);
        due("level(0, 0)", x.level(0, 0), NONE);
        due("enough(0)", x.enough(0), 0);
        due("enough(1)", x.enough(1), NONE);
        due("behind(0, NONE)", x.behind(0, NONE), 0);
        due("behind(0, 0)", x.behind(0, 0), NONE);
        due("judge(0)", x.judge(0), 0);
        due("judge(1)", x.judge(1), NONE);
        due("judge(2)", x.judge(2), 0);
        due("learn()", x.learn(), 0);
        due("backward(NONE, 1)", x.backward(NONE, 1), 0);
        due("backward(NONE, 2)", x.backward(NONE, 2), NONE);
        due("share(NONE)", x.share(NONE), 0);
        due("share(0)", x.share(0), NONE);
        due("ill(3, 100)", x.ill(3, 100), 0);
        due("seldom(NONE)", x.seldom(NONE), NONE);
        due("year(0)", x.year(0), 1);
        due("year(1)", x.year(1), -1);
        dueTable(x, 0, 0, 0, 0);
        due("exams(500, 0)", x.exams(500, 0), 0);
        sentence("an empty BOWL: all are OUT");
        ExamSlips out = knowing(oneOf(1), 2);
        out.know(0, 2, 1);
        duePass(out, 0, 1);
        dueBest(out, 400, 0, 1, 0);
        due("safe()", out.safe(), NONE);
        due("sure(1, 0)", out.sure(1, 0), NONE);
        due("count(1)", out.count(1), 0);
        dueTable(out, 0, 0, 0, 0);
    }

    private static void kingsAndPages() {
        sentence("KING 0 .. 4");
        ExamSlips x = new ExamSlips();
        due("question(-1, 1)", x.question(-1, 1), -1);
        due("question(0, 1)", x.question(0, 1), 0);
        due("question(4, 1)", x.question(4, 1), 1);
        due("question(5, 1)", x.question(5, 1), -1);
        due("of(0, 0)", x.of(0, 0), 0);
        due("of(1, 0)", x.of(1, 0), 4);
        sentence("PAGES 1 .. 99");
        due("question(0, 0)", x.question(0, 0), -1);
        due("question(0, 1)", x.question(0, 1), 2);
        due("question(0, 99)", x.question(0, 99), 3);
        due("question(0, 100)", x.question(0, 100), -1);
        due("of(2, 1)", x.of(2, 1), 1);
        due("of(3, 1)", x.of(3, 1), 99);
        sentence("2. question -1: numbers far beyond");
        due("question(least, 1)", x.question(LEAST, 1), -1);
        due("question(most, 1)", x.question(MOST, 1), -1);
        due("question(0, least)", x.question(0, LEAST), -1);
        due("question(0, most)", x.question(0, MOST), -1);
        due("count(0)", x.count(0), 4);
    }

    private static void twentyQuestions() {
        sentence("QUESTIONS 0 .. 19 (20 at most)");
        ExamSlips x = of(19);
        due("the 20th", x.question(4, 99), 19);
        due("of(19, 1)", x.of(19, 1), 99);
        due("of(20, 1)", x.of(20, 1), NONE);
        sentence("2. question: -5");
        due("the 21st", x.question(1, 1), -5);
        due("status()", x.status(), -5);
        due("count(0)", x.count(0), 20);
        due("of(19, 1)", x.of(19, 1), 99);
    }

    private static void knownLikedOut() {
        sentence("KNOWN 0 (not), 1 (half), 2 (well; 0 at first)");
        ExamSlips x = of(1);
        due("of(0, 2)", x.of(0, 2), 0);
        due("know(0, 0, -1)", x.know(0, 0, -1), -1);
        due("know(0, 0, 3)", x.know(0, 0, 3), -1);
        due("know(0, 0, 2)", x.know(0, 0, 2), 0);
        due("know(0, 0, 1)", x.know(0, 0, 1), 2);
        due("know(0, 0, 0)", x.know(0, 0, 0), 1);
        due("of(0, 2)", x.of(0, 2), 0);
        sentence("LIKED 1 or 0 (0)");
        due("of(0, 3)", x.of(0, 3), 0);
        due("know(0, 1, -1)", x.know(0, 1, -1), -1);
        due("know(0, 1, 2)", x.know(0, 1, 2), -1);
        due("know(0, 1, 1)", x.know(0, 1, 1), 0);
        due("of(0, 3)", x.of(0, 3), 1);
        due("know(0, 1, 0)", x.know(0, 1, 0), 1);
        sentence("OUT 1 or 0 (0: one that is OUT does not lie in the bowl)");
        due("of(0, 4)", x.of(0, 4), 0);
        due("know(0, 2, -1)", x.know(0, 2, -1), -1);
        due("know(0, 2, 2)", x.know(0, 2, 2), -1);
        due("know(0, 2, 1)", x.know(0, 2, 1), 0);
        due("count(1)", x.count(1), 0);
        due("know(0, 2, 0)", x.know(0, 2, 0), 1);
        due("count(1)", x.count(1), 1);
        sentence("3. know: KNOWN (what 0), LIKED (1), OUT (2)");
        due("know(0, -1, 0)", x.know(0, -1, 0), -1);
        due("know(0, 3, 0)", x.know(0, 3, 0), -1);
        due("know(0, least, 0)", x.know(0, LEAST, 0), -1);
        due("know(0, most, 0)", x.know(0, MOST, 0), -1);
        sentence("3. know -2: there is no such QUESTION");
        due("know(1, 0, 0)", x.know(1, 0, 0), -2);
        due("know(-1, 0, 0)", x.know(-1, 0, 0), -2);
        due("know(20, 2, 1)", x.know(20, 2, 1), -2);
        due("know(least, 1, 1)", x.know(LEAST, 1, 1), -2);
        due("know(most, 1, 1)", x.know(MOST, 1, 1), -2);
    }

    private static void looksAtQuestions() {
        sentence("4. of: 0 KING, 1 PAGES, 2 KNOWN, 3 LIKED, 4 OUT. NONE");
        ExamSlips x = new ExamSlips();
        x.question(3, 77);
        x.know(0, 0, 2);
        x.know(0, 1, 1);
        int[] is = {3, 77, 2, 1, 0};
        for (int what = 0; what < 5; what++) {
            due("of(0, " + what + ")", x.of(0, what), is[what]);
        }
        due("of(0, -1)", x.of(0, -1), NONE);
        due("of(0, 5)", x.of(0, 5), NONE);
        due("of(-1, 0)", x.of(-1, 0), NONE);
        due("of(1, 0)", x.of(1, 0), NONE);
        due("of(least, 0)", x.of(LEAST, 0), NONE);
        due("of(most, 0)", x.of(MOST, 0), NONE);
    }

    private static void termsLeastAndMost() {
        termBetween("0 LIE 1 .. 10 (8 at first)", LIE, 1, 10, 8);
        termBetween("1 ANSWERS 1 .. 3 (3)", ANSWERS, 1, 3, 3);
        termBetween("2 WANTED 1 .. 3 (2)", WANTED, 1, 3, 2);
        termBetween("3 LEAN 0 .. 100 (0)", LEAN, 0, 100, 0);
        termBetween("4 ILL 0 .. 100 (10)", ILL, 0, 100, 10);
        termBetween("5 DAYS 1 .. 20 (19)", DAYS, 1, 20, 19);
        termBetween("6 HOURS of a day 0 .. 16 (6)", HOURS, 0, 16, 6);
        sentence("5. terms -1: a TERM that is none");
        ExamSlips x = new ExamSlips();
        due("terms(-1, 1)", x.terms(-1, 1), -1);
        due("terms(7, 1)", x.terms(7, 1), -1);
        due("terms(least, 1)", x.terms(LEAST, 1), -1);
        due("terms(most, 1)", x.terms(MOST, 1), -1);
    }

    private static void termBetween(String text, int what, int least, int most, int first) {
        sentence(text);
        ExamSlips x = new ExamSlips();
        due("terms below", x.terms(what, least - 1), -1);
        due("terms above", x.terms(what, most + 1), -1);
        due("terms far below", x.terms(what, LEAST), -1);
        due("terms far above", x.terms(what, MOST), -1);
        due("terms least", x.terms(what, least), first);
        due("terms most", x.terms(what, most), least);
        due("terms least again", x.terms(what, least), most);
    }

    private static void refusals() {
        theFirstInOrder();
        refusedCallsChangeNothing();
    }

    private static void theFirstInOrder() {
        sentence("The first of these in that order: question -1 ahead of -5");
        ExamSlips full = of(20);
        due("question(5, 1)", full.question(5, 1), -1);
        due("question(0, 100)", full.question(0, 100), -1);
        due("question(4, 99)", full.question(4, 99), -5);
        sentence("The first of these in that order: know -1 ahead of -2");
        ExamSlips x = of(1);
        due("know(1, 3, 0)", x.know(1, 3, 0), -1);
        due("know(1, 0, 3)", x.know(1, 0, 3), -1);
        due("know(-1, 1, 2)", x.know(-1, 1, 2), -1);
        due("know(1, 0, 2)", x.know(1, 0, 2), -2);
        sentence("The first of these in that order: lesson -1, -2, -5");
        due("lesson(20, 1): -1 ahead of -2", x.lesson(20, 1), -1);
        due("lesson(-1, 1): -1 ahead of -2", x.lesson(-1, 1), -1);
        due("lesson(19, 1)", x.lesson(19, 1), -2);
        for (int i = 0; i < 120; i++) {
            x.lesson(0, 0);
        }
        due("lesson(20, 0): -1 ahead of -5", x.lesson(20, 0), -1);
        due("lesson(0, 1): -2 ahead of -5", x.lesson(0, 1), -2);
        due("lesson(20, 1): -1 ahead of both", x.lesson(20, 1), -1);
        due("lesson(19, 0)", x.lesson(19, 0), -5);
        sentence("The first of these in that order: year -1 ahead of -5");
        for (int i = 0; i < 40; i++) {
            x.year(1);
        }
        due("year(2)", x.year(2), -1);
        due("year(1)", x.year(1), -5);
        sentence("The first of these in that order: paper -5 (ahead of reading it)");
        for (int i = 0; i < 6; i++) {
            paper(x, "hours 1");
        }
        due("paper() of an unreadable TEXT", paper(x, "hours ?"), -5);
        due("fault() of what was not read", x.fault(), NONE);
        due("paper() of blanks", paper(x, "  "), -5);
        due("paper() of nothing", x.paper(), -5);
        sentence("The first of these in that order: back -1 ahead of -2");
        due("back(2), which was never kept, too", x.back(2), -1);
        due("back(1)", x.back(1), -2);
    }

    private static void refusedCallsChangeNothing() {
        sentence("REFUSED: nothing changes");
        ExamSlips x = by(of(2), "hours 5");
        x.know(0, 0, 1);
        x.friend(1, 44);
        x.lesson(3, 1);
        x.year(2);
        x.know(0, 0, 3);
        x.know(0, 3, 2);
        x.know(2, 0, 2);
        x.terms(LIE, 11);
        x.terms(HOURS, -1);
        x.question(5, 5);
        x.use(1);
        x.use(-2);
        x.friend(1, 100);
        x.friend(3, 1);
        x.lesson(20, 0);
        x.lesson(0, 2);
        x.year(4);
        x.image(2);
        x.back(1);
        x.row();
        x.paper();
        due("count(0)", x.count(0), 2);
        due("of(0, 2)", x.of(0, 2), 1);
        due("terms(LIE)", x.terms(LIE, 8), 8);
        due("terms(HOURS)", x.terms(HOURS, 6), 6);
        due("count(12)", x.count(12), 0);
        due("friend(1, 44)", x.friend(1, 44), 44);
        due("count(3)", x.count(3), 1);
        due("behind(3, 1)", x.behind(3, 1), 1);
        due("count(4)", x.count(4), 1);
        due("drawn(1, 0)", x.drawn(1, 0), 1);
        due("count(2)", x.count(2), 1);
        due("count(7): by -1", x.count(7), 10);
        due("count(8): by -2", x.count(8), 5);
        due("count(11): by -6", x.count(11), 2);
    }

    // Terms II: papers

    private static void tape() {
        feedToTheFull();
        endOfTheTape();
        bytesOfNumbers();
        sixPapers();
        paperInUse();
    }

    private static void feedToTheFull() {
        sentence("6. feed: NONE, if there would be more than 400");
        ExamSlips x = new ExamSlips();
        for (int bytes = 20; bytes <= 400; bytes += 20) {
            due("feed", x.feed(0, 0, 0, 0, 0), bytes);
        }
        due("feed with 400", x.feed(0, 0, 0, 0, 0), NONE);
        due("count(6)", x.count(6), 400);
        x.end(381);
        due("feed with 381", x.feed(0, 0, 0, 0, 0), NONE);
        due("count(6)", x.count(6), 381);
        x.end(380);
        due("feed with 380", x.feed(0, 0, 0, 0, 0), 400);
        due("count(7), NONE is no refusal", x.count(7), 0);
        due("count(10), nor is there no room", x.count(10), 0);
        sentence("a TAPE of at most 400 bytes");
        reads("hours 7" + " ".repeat(393));
        faultAt("hours 7" + " ".repeat(392) + "?", 399);
        faultAt("?".repeat(400), 0);
        faultAt("a1".repeat(200), 0);
        faultAt("hours 1 if " + "(".repeat(389), 19);
        reads("hours 1 if 1=1" + "+1".repeat(47) + " ".repeat(291) + " ");
        faultAt("keeps" + " ".repeat(395), 400);
    }

    private static void endOfTheTape() {
        sentence("7. end: NONE, if it has not so many, or n is below 0");
        ExamSlips x = new ExamSlips();
        due("end(0) of none", x.end(0), 0);
        due("end(1) of none", x.end(1), NONE);
        x.feed(0, 0, 0, 0, 0);
        due("end(21) of 20", x.end(21), NONE);
        due("end(-1)", x.end(-1), NONE);
        due("end(least)", x.end(LEAST), NONE);
        due("end(most)", x.end(MOST), NONE);
        due("count(6)", x.count(6), 20);
        due("end(20)", x.end(20), 20);
        due("end(19)", x.end(19), 19);
        due("end(20) of 19", x.end(20), NONE);
        due("end(0)", x.end(0), 0);
        due("count(6)", x.count(6), 0);
        sentence("7. The TAPE has its first n bytes alone: n");
        tape(x, "hours 12???");
        due("end(8)", x.end(8), 8);
        due("paper()", x.paper(), 0);
        x.question(0, 1);
        x.use(0);
        due("takes(0, 1, 0)", x.takes(0, 1, 0), 12);
    }

    private static void bytesOfNumbers() {
        sentence("6. Twenty bytes come behind the TAPE, four of each number, the highest first");
        ExamSlips x = of(1);
        // "hour" "s 20" "-4-4" "-2  " "    "
        x.feed(0x686f7572, 0x73203230, 0x2d342d34, 0x2d322020, 0x20202020);
        x.use(x.paper());
        due("takes(0, 1, 0)", x.takes(0, 1, 0), 10);
        // the number -1 is four bytes of 255, none of which a TEXT can have
        ExamSlips y = new ExamSlips();
        y.feed(0x6b656570, 0x73203120, -1, 0, 0);
        y.paper();
        due("fault() at a byte of 255", y.fault(), 8);
        y.feed(0x6b656570, 0x73203120, 0x00202020, 0, 0);
        y.paper();
        due("fault() at a byte of 0", y.fault(), 8);
        y.feed(0x6b656570, 0x73203120, 0x20802020, 0, 0);
        y.paper();
        due("fault() at a byte of 128", y.fault(), 9);
    }

    private static void sixPapers() {
        sentence("PAPERS are TEXTS, 6 at most");
        ExamSlips x = of(1);
        for (int number = 0; number < 6; number++) {
            due("paper()", paper(x, "hours " + (number + 5)), number);
            due("count(2)", x.count(2), number + 1);
        }
        sentence("8. paper: -5 (ahead of reading it; the TAPE is empty then, too)");
        due("the 7th", paper(x, "hours 11"), -5);
        due("count(6)", x.count(6), 0);
        due("count(2)", x.count(2), 6);
        due("status()", x.status(), -5);
        sentence("9. FAULT of the latest paper() that read a TEXT");
        due("fault() ahead of a 7th one", x.fault(), NONE);
        for (int number = 0; number < 6; number++) {
            x.use(number);
            due("takes by " + number, x.takes(0, 1, 0), number + 5);
        }
        ExamSlips y = new ExamSlips();
        paper(y, "hours ?");
        due("fault()", y.fault(), 6);
        tape(y, "keeps ?????");
        due("fault() of what is not read yet", y.fault(), 6);
        y.paper();
        due("fault() of a TEXT with a FAULT at the same place", y.fault(), 6);
        paper(y, "keeps 1");
        due("fault(): NONE without", y.fault(), NONE);
        sentence("8. The TAPE, which is empty then, becomes a PAPER: its number");
        due("count(6)", y.count(6), 0);
        due("count(2): those that could not be read have none", y.count(2), 1);
        due("paper()", paper(y, "hours 3"), 1);
        sentence("8. -6: the TAPE is empty then, too");
        due("paper()", paper(y, "hours ?"), -6);
        due("count(6)", y.count(6), 0);
        sentence("8. -6 (blanks alone: FAULT at the end)");
        faultAt("", 0);
        faultAt(" ", 1);
        faultAt(" ".repeat(400), 400);
    }

    private static void paperInUse() {
        sentence("10. use: A PAPER is in USE (NONE: none): which was. -2");
        ExamSlips x = of(1);
        due("use(0) without any", x.use(0), -2);
        due("use(NONE)", x.use(NONE), NONE);
        paper(x, "hours 7;keeps 7;chance 7");
        sentence("NONE at first: no CLAUSE");
        due("takes by none", x.takes(0, 1, 0), 4);
        due("keeps by none", x.keeps(0, 1), 10);
        due("chance(0) by none", x.chance(0), 0);
        due("chance(1) by none", x.chance(1), 50);
        due("chance(2) by none", x.chance(2), 100);
        sentence("10. use: which was; -2 there is no such PAPER");
        due("use(1)", x.use(1), -2);
        due("use(-2)", x.use(-2), -2);
        due("use(least)", x.use(LEAST), -2);
        due("use(most)", x.use(MOST), -2);
        due("use(0)", x.use(0), NONE);
        due("takes by 0", x.takes(0, 1, 0), 7);
        due("use(1)", x.use(1), -2);
        due("count(12)", x.count(12), 0);
        due("use(0)", x.use(0), 0);
        due("use(NONE)", x.use(NONE), 0);
        due("keeps by none", x.keeps(0, 1), 10);
    }

    private static void tokens() {
        rowsOfLetters();
        rowsOfDigits();
        singleBytesAndBlanks();
    }

    private static void rowsOfLetters() {
        sentence("TOKENS: longest rows of letters a .. z");
        faultAt("hoursz 1", 0);
        faultAt("hour s 1", 0);
        faultAt("hoursk", 0);
        faultAt("hourskeeps 1", 0);
        faultAt("hours kingz", 6);
        faultAt("hours kin", 6);
        faultAt("hours king0", 10);
        faultAt("hours 1 if notking=1", 11);
        reads("keeps king");
        reads("chance level if question=0");
        sentence("letters a .. z: the bytes on either side are none");
        faultAt("hours`1", 5);
        faultAt("hours{1", 5);
        faultAt("hoursA 1", 5);
        faultAt("hoursZ", 5);
        faultAt("HOURS 1", 0);
        faultAt("Keeps 1", 0);
    }

    private static void rowsOfDigits() {
        sentence("TOKENS: longest rows of digits");
        faultAt("hours 1 2", 8);
        faultAt("hours 10 00", 9);
        faultAt("hours 12king", 8);
        reads("hours1");
        reads("hours12if1=1");
        sentence("digits: the bytes on either side are none");
        due("hours 12/3", hoursBy("hours 18/3"), 6);
        faultAt("hours 12:3", 8);
        faultAt("hours 12:", 8);
    }

    private static void singleBytesAndBlanks() {
        sentence("single other bytes");
        faultAt("hours 1\t", 7);
        faultAt("\thours 1", 0);
        faultAt("hours 1\n", 7);
        faultAt("hours 1!", 7);
        faultAt("hours 1" + (char) 31, 7);
        faultAt("hours 1" + (char) 33, 7);
        faultAt("hours 1" + (char) 127, 7);
        faultAt("hours 1" + (char) 160, 7);
        faultAt("hours 1" + (char) 0, 7);
        faultAt("hours 1" + (char) 255, 7);
        faultAt("hours 1<<2", 7);
        faultAt("hours 1 if 1<=2", 13);
        faultAt("hours 1 if 1==1", 13);
        faultAt("hours 1 if 1<>1", 13);
        sentence("any blanks (32) between");
        reads("hours[king]if[king]=1and(1=1)or not(2=2)");
        reads("   hours   1   if   1   =   1   ;   keeps   [   1   ]   ");
        due("hours 7 with blanks", hoursBy("  hours  [  7  ]  "), 7);
        due("hours7 without", hoursBy("hours7"), 7);
    }

    private static void grammar() {
        clausesInARow();
        orsAndAnds();
        plainTests();
        sumsAndTerms();
        numbersToAThousand();
        bracketsAndWords();
    }

    private static void clausesInARow() {
        sentence("CLAUSE {\";\" CLAUSE}");
        faultAt(";hours 1", 0);
        faultAt("hours 1;", 8);
        faultAt("hours 1;;hours 1", 8);
        faultAt("hours 1 hours 1", 8);
        faultAt("hours 1 all", 8);
        faultAt("hours 1 1001", 8);
        faultAt("hours 1,hours 1", 7);
        reads("hours 1;hours 1");
        sentence("CLAUSE: HEAD SUM [\"if\" TEST]");
        faultAt("1", 0);
        faultAt("king", 0);
        faultAt("if 1=1", 0);
        faultAt("hours", 5);
        faultAt("hours;", 5);
        faultAt("hours if 1=1", 6);
        faultAt("hours 1 if", 10);
        faultAt("hours 1 if;", 10);
        faultAt("hours 1 if 1=1 if 1=1", 15);
        faultAt("hours 1 1=1", 8);
        faultAt("hours 1 if 1=1 all", 15);
        faultAt("hours 1 if 1=1 1001", 15);
        sentence("HEAD: \"hours\" | \"keeps\" | \"chance\"");
        reads("hours 1");
        reads("keeps 1");
        reads("chance 1");
        faultAt("chances 1", 0);
        faultAt("hours hours", 6);
        faultAt("pages 1", 0);
    }

    private static void orsAndAnds() {
        sentence("TEST: BOTH {\"or\" BOTH}");
        faultAt("hours 1 if or 1=1", 11);
        faultAt("hours 1 if 1=1 or", 17);
        faultAt("hours 1 if 1=1 or or 1=1", 18);
        faultAt("hours 1 if 1=1 or and 1=1", 18);
        sentence("BOTH: PLAIN {\"and\" PLAIN}");
        faultAt("hours 1 if and 1=1", 11);
        faultAt("hours 1 if 1=1 and", 18);
        faultAt("hours 1 if 1=1 and and 1=1", 19);
        faultAt("hours 1 and 1=1", 8);
        faultAt("hours 1 if 1=1 1=1", 15);
        faultAt("hours 1 if 1=1 not 1=1", 15);
    }

    private static void plainTests() {
        sentence("PLAIN: \"not\" PLAIN | \"(\" TEST \")\" | SUM (\"<\" | \">\" | \"=\") SUM");
        faultAt("hours 1 if not", 14);
        faultAt("hours 1 if not and", 15);
        faultAt("hours not 1", 6);
        reads("hours 1 if not not not 1=1");
        faultAt("hours 1 if (1=1", 15);
        faultAt("hours 1 if 1=1)", 14);
        faultAt("hours 1 if ()", 12);
        faultAt("hours 1 if (1=1]", 15);
        faultAt("hours 1 if (1)=1", 13);
        faultAt("hours 1 if (1=1)=1", 16);
        faultAt("hours 1 if 1", 12);
        faultAt("hours 1 if 1 and 1=1", 13);
        faultAt("hours 1 if =1", 11);
        faultAt("hours 1 if 1=", 13);
        faultAt("hours 1 if 1=1=1", 14);
        faultAt("hours 1 if 1=not 1=1", 13);
        faultAt("hours 1 if 1=(1=1)", 13);
        reads("hours 1 if ((1=1) or (2<3 and not(3>4)))");
    }

    private static void sumsAndTerms() {
        sentence("SUM: TERM {(\"+\" | \"-\") TERM}");
        faultAt("hours 1+", 8);
        faultAt("hours 1-", 8);
        faultAt("hours +1", 6);
        faultAt("hours -1", 6);
        faultAt("hours 1+-1", 8);
        faultAt("hours 1--1", 8);
        sentence("TERM: PART {(\"*\" | \"/\") PART}");
        faultAt("hours 2*", 8);
        faultAt("hours 2/", 8);
        faultAt("hours *2", 6);
        faultAt("hours /2", 6);
        faultAt("hours 2*/2", 8);
        faultAt("hours 2*-2", 8);
        faultAt("hours 2%2", 7);
    }

    private static void numbersToAThousand() {
        sentence("PART: NUMBER (to 1,000)");
        reads("hours 0");
        reads("hours 1000");
        reads("hours 0001000");
        faultAt("hours 1001", 6);
        faultAt("hours 0001001", 6);
        faultAt("hours 10000", 6);
        faultAt("hours 1000000", 6);
        faultAt("hours 1+1001", 8);
        faultAt("hours 4294967297", 6);
        faultAt("hours 18446744073709551617", 6);
        faultAt("hours " + "9".repeat(394), 6);
        reads("hours " + "0".repeat(393) + "1");
        due("hours of a long row of digits", hoursBy("hours " + "0".repeat(392) + "19"), 19);
    }

    private static void bracketsAndWords() {
        sentence("PART: \"[\" SUM \"]\"");
        faultAt("hours []", 7);
        faultAt("hours [1", 8);
        faultAt("hours [1)", 8);
        faultAt("hours 1]", 7);
        faultAt("hours (1)", 6);
        faultAt("hours [1=1]", 8);
        faultAt("hours 1 if [1=1]", 13);
        reads("hours 1 if [1]=[[1]]");
        sentence("PART: \"king\" | \"pages\" | \"level\" | \"helped\" | \"liked\" | \"day\" | \"question\"");
        reads("hours king+pages+level+helped+liked+day+question");
        faultAt("hours kings", 6);
        faultAt("hours page", 6);
        faultAt("hours out", 6);
        faultAt("hours if", 6);
        faultAt("hours or", 6);
        faultAt("hours and", 6);
    }

    private static void limitsOfTexts() {
        twelveClauses();
        fiftyParts();
        sixLongPapers();
        eightBrackets();
    }

    private static void twelveClauses() {
        sentence("CLAUSE {\";\" CLAUSE}, 12 at most (FAULT at the 13th's first TOKEN)");
        reads("hours 1;".repeat(11) + "hours 9");
        due("hours by the 12th", hoursBy("hours 8;".repeat(11) + "hours 9"), 9);
        faultAt("hours 1;".repeat(12) + "hours 1", 96);
        faultAt("hours 1;".repeat(12) + "   hours ?", 99);
        faultAt("hours 1;".repeat(12) + "?", 96);
        faultAt("hours 1;".repeat(12), 96);
        faultAt("hours 1;".repeat(12) + "  ", 98);
        ExamSlips twice = new ExamSlips();
        due("12 clauses", paper(twice, "hours 1;".repeat(11) + "hours 9"), 0);
        due("12 clauses once more", paper(twice, "keeps 1;".repeat(11) + "keeps 9"), 1);
    }

    private static void fiftyParts() {
        sentence("50 PARTS that are NUMBERS and words (FAULT at the 51st) at most");
        reads("hours 1" + "+1".repeat(49));
        faultAt("hours 1" + "+1".repeat(50), 7 + 49 * 2 + 1);
        reads("hours day" + "+day".repeat(49));
        faultAt("hours day" + "+day".repeat(50), 9 + 49 * 4 + 1);
        // 25 pairs of each kind are 50
        reads("hours 0" + "+level-1".repeat(24) + "*level");
        faultAt("hours 0" + "+level-1".repeat(24) + "*level*2", 7 + 24 * 8 + 6 + 1);
        faultAt("hours 1" + "+1".repeat(49) + ";hours 1", 7 + 98 + 7);
        reads("hours 1" + "+1".repeat(47) + " if 1=1");
        faultAt("hours 1" + "+1".repeat(48) + " if 1=1", 7 + 96 + 6);
        faultAt("hours 1" + "+1".repeat(49) + "+?", 7 + 98 + 1);
        faultAt("hours 1" + "+1".repeat(49) + "+", 7 + 98 + 1);
        sentence("50 PARTS: brackets, HEADS and the words of a TEST are none");
        reads("hours [1" + "+[1]".repeat(49) + "]");
        // 7 times 3 and 9
        String thirty = "hours 1 if not(1=1);".repeat(7) + "keeps 1+2+3 if 1=1 and not 1=1 or 2<1";
        reads(thirty + ";chance " + "1+".repeat(19) + "1");
        faultAt(thirty + ";chance " + "1+".repeat(20) + "1", 7 * 20 + 37 + 8 + 40);
        sentence("50 PARTS: of each TEXT, whatever was read ahead of it");
        ExamSlips x = new ExamSlips();
        due("50 parts", paper(x, "hours 1" + "+1".repeat(49)), 0);
        due("50 parts once more", paper(x, "hours 1" + "+1".repeat(49)), 1);
        due("51 parts", paper(x, "hours 1" + "+1".repeat(50)), -6);
        due("50 parts behind a fault", paper(x, "hours 1" + "+1".repeat(49)), 2);
    }

    private static void sixLongPapers() {
        sentence("at most: six TEXTS as long as can be are told as one is");
        ExamSlips six = of(1);
        for (int number = 0; number < 6; number++) {
            paper(six, "hours 0" + "+0".repeat(46) + "+" + (number + 5) + " if not 1=2");
        }
        for (int number = 0; number < 6; number++) {
            six.use(number);
            due("takes by " + number, six.takes(0, 1, 0), number + 5);
        }
    }

    private static void eightBrackets() {
        sentence("8 brackets of both kinds, within one another (FAULT at the 9th) at most");
        reads("hours " + "[".repeat(8) + "1" + "]".repeat(8));
        faultAt("hours " + "[".repeat(9) + "1" + "]".repeat(9), 14);
        reads("hours 1 if " + "(".repeat(8) + "1=1" + ")".repeat(8));
        faultAt("hours 1 if " + "(".repeat(9) + "1=1" + ")".repeat(9), 19);
        reads("hours 1 if " + "(".repeat(7) + "[1]=[1]" + ")".repeat(7));
        faultAt("hours 1 if " + "(".repeat(7) + "[[1]]=1" + ")".repeat(7), 19);
        faultAt("hours 1 if " + "(".repeat(7) + "1=[[1]]" + ")".repeat(7), 21);
        faultAt("hours 1 if " + "(".repeat(8) + "[1]=1" + ")".repeat(8), 19);
        reads("hours 1 if " + "(".repeat(4) + "[".repeat(4) + "1" + "]".repeat(4) + "=1" + ")".repeat(4));
        faultAt("hours 1 if " + "not(".repeat(8) + "(1=1)" + ")".repeat(8), 11 + 32);
        reads("hours 1 if " + "not(".repeat(8) + "1=1" + ")".repeat(8));
        sentence("8 brackets within one another: those side by side are no more");
        reads("hours [1]" + "+[1]".repeat(19));
        reads("hours 1 if (1=1)" + " and (1=1)".repeat(11) + " or (1=1)");
        reads("hours " + "[".repeat(8) + "1" + "]".repeat(8) + "*" + "[".repeat(8) + "1" + "]".repeat(8));
        reads("hours 1 if " + "(".repeat(8) + "1=1" + ")".repeat(8) + " or " + "(".repeat(8) + "1=1" + ")".repeat(8));
        reads("hours [[[1]+[[1]]]+1]+[" + "[".repeat(7) + "1" + "]".repeat(7) + "]");
        due("hours by brackets", hoursBy("hours [[[[[[[[7]]]]]]]]+[[[2]]]"), 9);
    }

    private static void faults() {
        sentence("FAULT: the first TOKEN that can't go on there");
        faultAt("hours ? ?", 6);
        faultAt("hours ?;keeps", 6);
        faultAt("hours 1;keeps ?;chance", 14);
        faultAt("hours [1 if 1=1", 9);
        faultAt("hours [[1]*2)", 12);
        faultAt("hours 1 if (1=1 and 2) or", 21);
        sentence("FAULT (the end's: the TEXT's length)");
        faultAt("hours", 5);
        faultAt("hours  ", 7);
        faultAt("hours 1;  ", 10);
        faultAt("hours [1  ", 10);
        faultAt("hours 1 if (1=1  ", 17);
        faultAt("  ", 2);
    }

    private static void telling() {
        theLastThatHolds();
        comparing();
        termsAheadOfSums();
        andsAheadOfOrs();
        nots();
        cutTowardsZero();
    }

    private static void theLastThatHolds() {
        sentence("Told by a HEAD is what the last CLAUSE with it that HOLDS tells");
        due("two that hold", hoursBy("hours 7;hours 9"), 9);
        due("the last does not hold", hoursBy("hours 7;hours 9 if 1=2"), 7);
        due("the last is BROKEN", hoursBy("hours 7;hours 9/0"), 7);
        due("the last that HOLDS is between", hoursBy("hours 7;hours 8;hours 9 if 1=2"), 8);
        due("none HOLDS", hoursBy("hours 7 if 1=2;hours 9 if 2=1"), 4);
        due("other HEADS", hoursBy("hours 7;keeps 9;chance 11"), 7);
        due("other HEADS alone", hoursBy("keeps 9;chance 11"), 4);
        sentence("A CLAUSE HOLDS, if its \"if\" (if it has one) is so");
        due("if so", hoursBy("hours 7 if 1=1"), 7);
        due("if not so", hoursBy("hours 7 if 1=2"), 4);
        due("without", hoursBy("hours 7"), 7);
    }

    private static void comparing() {
        sentence("SUM (\"<\" | \">\" | \"=\") SUM");
        due("1<2", hoursBy("hours 9 if 1<2"), 9);
        due("2<2", hoursBy("hours 9 if 2<2"), 4);
        due("3<2", hoursBy("hours 9 if 3<2"), 4);
        due("3>2", hoursBy("hours 9 if 3>2"), 9);
        due("2>2", hoursBy("hours 9 if 2>2"), 4);
        due("1>2", hoursBy("hours 9 if 1>2"), 4);
        due("1=2", hoursBy("hours 9 if 1=2"), 4);
        due("2=2", hoursBy("hours 9 if 2=2"), 9);
        due("3=2", hoursBy("hours 9 if 3=2"), 4);
        due("below 0", hoursBy("hours 9 if 0-2<0-1"), 9);
        due("sums on both sides", hoursBy("hours 9 if 1+2*3=10-3"), 9);
    }

    private static void termsAheadOfSums() {
        sentence("TERMS ahead of SUMS, from the left");
        due("2+3*4", hoursBy("hours 2+3*4"), 14);
        due("2*3+4", hoursBy("hours 2*3+4"), 10);
        due("20-6/3", hoursBy("hours 20-6/3"), 18);
        due("20-5-4", hoursBy("hours 20-5-4"), 11);
        due("20-5+4", hoursBy("hours 20-5+4"), 19);
        due("100/5/2", hoursBy("hours 100/5/2"), 10);
        due("7/2*2", hoursBy("hours 7/2*2"), 6);
        due("2*7/2", hoursBy("hours 2*7/2"), 7);
        due("20-2*[3+4]+1*3", hoursBy("hours 20-2*[3+4]+1*3"), 9);
        due("1+2*3*2-4/2/2+3", hoursBy("hours 1+2*3*2-4/2/2+3"), 15);
    }

    private static void andsAheadOfOrs() {
        sentence("BOTH ahead of TEST");
        due("so or so and not", hoursBy("hours 9 if 1=1 or 1=1 and 1=2"), 9);
        due("not and so or so", hoursBy("hours 9 if 1=2 and 1=1 or 1=1"), 9);
        due("(so or so) and not", hoursBy("hours 9 if (1=1 or 1=1) and 1=2"), 4);
        due("not or not or so", hoursBy("hours 9 if 1=2 or 1=2 or 1=1"), 9);
        due("so and so and not", hoursBy("hours 9 if 1=1 and 1=1 and 1=2"), 4);
        due("so and so and so", hoursBy("hours 9 if 1=1 and 1=1 and 1=1"), 9);
        due("so or not", hoursBy("hours 9 if 1=1 or 1=2"), 9);
        due("so and so or not", hoursBy("hours 9 if 1=1 and 2=2 or 1=2"), 9);
        due("not or so and so", hoursBy("hours 9 if 1=2 or 1=1 and 2=2"), 9);
        due("not or so and not", hoursBy("hours 9 if 1=2 or 1=1 and 1=2"), 4);
    }

    private static void nots() {
        sentence("\"not\" PLAIN");
        due("not so", hoursBy("hours 9 if not 1=1"), 4);
        due("not not so", hoursBy("hours 9 if not not 1=1"), 9);
        due("not not not so", hoursBy("hours 9 if not not not 1=1"), 4);
        due("not (not so)", hoursBy("hours 9 if not (not 1=1)"), 9);
        due("not (not (not so))", hoursBy("hours 9 if not (not (not 1=1))"), 4);
        due("not so and so", hoursBy("hours 9 if not 1=1 and 1=1"), 4);
        due("so and not so", hoursBy("hours 9 if 1=1 and not 1=1"), 4);
        due("not so or so", hoursBy("hours 9 if not 1=1 or 1=1"), 9);
        due("not so or not so", hoursBy("hours 9 if not 1=1 or not 1=1"), 4);
        due("not binds one PLAIN", hoursBy("hours 9 if not 1=2 and 1=1"), 9);
        due("not binds one PLAIN", hoursBy("hours 9 if not 1=1 or 1=1"), 9);
        due("not of brackets", hoursBy("hours 9 if not (1=1 or 1=1)"), 4);
        due("not of brackets", hoursBy("hours 9 if not (1=1 and 1=2)"), 9);
    }

    private static void cutTowardsZero() {
        sentence("/ is cut towards 0");
        due("7/2", hoursBy("hours 7/2"), 3);
        due("10+[0-7]/2", hoursBy("hours 10+[0-7]/2"), 7);
        due("10+7/[0-2]", hoursBy("hours 10+7/[0-2]"), 7);
        due("[0-7]/[0-2]", hoursBy("hours [0-7]/[0-2]"), 3);
        due("10+1/2", hoursBy("hours 10+1/2"), 10);
        due("10+[0-1]/2", hoursBy("hours 10+[0-1]/2"), 10);
        due("6/2", hoursBy("hours 6/2"), 3);
        due("10+[0-6]/2", hoursBy("hours 10+[0-6]/2"), 7);
    }

    private static void brokenSums() {
        beyondABillion();
        beyondABillionByTimes();
        dividedByZero();
        whatCanStillMatter();
    }

    private static void beyondABillion() {
        sentence("Beyond 1,000,000,000 either way, a SUM is BROKEN: by +");
        due("a billion", hoursBy("hours 9;hours [" + BILLION + "-1+1]/1000/1000/100"), 10);
        due("a billion and 1", hoursBy("hours 9;hours [" + BILLION + "+1]/1000/1000/100"), 9);
        due("a billion and 0", hoursBy("hours 9;hours [" + BILLION + "+0]/1000/1000/100"), 10);
        sentence("Beyond 1,000,000,000 either way, a SUM is BROKEN: by -");
        due("a billion below 0", hoursBy("hours 9;hours 20+[0-" + BILLION + "]/1000/1000/100"), 10);
        due("a billion and 1 below 0", hoursBy("hours 9;hours 20+[0-" + BILLION + "-1]/1000/1000/100"), 9);
        due("a billion less 1 below 0", hoursBy("hours 9;hours 20+[0-" + BILLION + "+1-1]/1000/1000/100"), 10);
        due("1 less a billion below 0", hoursBy("hours 9;hours 1-[0-" + BILLION + "]"), 9);
        due("0 less a billion below 0", hoursBy("hours 9;hours [0-[0-" + BILLION + "]]/1000/1000/100"), 10);
    }

    private static void beyondABillionByTimes() {
        sentence("Beyond 1,000,000,000 either way, a SUM is BROKEN: by *");
        due("a billion times 1", hoursBy("hours 9;hours " + BILLION + "*1/1000/1000/100"), 10);
        due("1001 times a million", hoursBy("hours 9;hours [1000+1]*1000*1000/1000/1000/100"), 9);
        due("-1000 times a million", hoursBy("hours 9;hours 20+[0-1000]*1000*1000/1000/1000/100"), 10);
        due("-1001 times a million", hoursBy("hours 9;hours 20+[0-1000-1]*1000*1000"), 9);
        due("1,000,000,007 is 7 by no wrap", hoursBy("hours 9;hours 1000*1000*1000+7"), 9);
        due("2 to the 32nd is not 0", hoursBy("hours 9;hours [65*1000+536]*[65*1000+536]"), 9);
        due("2 to the 64th is not 0", hoursBy("hours 9;hours 256*256*256*256*256*256*256*256"), 9);
        due("a billion times a billion", hoursBy("hours 9;hours [" + BILLION + "]*[" + BILLION + "]"), 9);
        due("0 behind what is BROKEN", hoursBy("hours 9;hours " + BILLION + "*2*0+5"), 9);
        due("on the way alone", hoursBy("hours 9;hours [" + BILLION + "+1]-" + BILLION), 9);
        sentence("Beyond 1,000,000,000 either way, a TEST is BROKEN");
        due("a billion", hoursBy("hours 9 if " + BILLION + ">0"), 9);
        due("a billion and 1", hoursBy("hours 9 if " + BILLION + "+1>0"), 4);
        due("not of a billion and 1", hoursBy("hours 9 if not " + BILLION + "+1<0"), 4);
        due("a billion below 0", hoursBy("hours 9 if 0>0-" + BILLION), 9);
        due("a billion and 1 below 0", hoursBy("hours 9 if 0>0-" + BILLION + "-1"), 4);
    }

    private static void dividedByZero() {
        sentence("divided by 0, a SUM, a TEST is BROKEN");
        due("5/0", hoursBy("hours 9;hours 5/0"), 9);
        due("0/0", hoursBy("hours 9;hours 0/0"), 9);
        due("5/1", hoursBy("hours 9;hours 5/1"), 5);
        due("20+5/[0-1]", hoursBy("hours 9;hours 20+5/[0-1]"), 15);
        due("0/5", hoursBy("hours 9;hours 5+0/5"), 5);
        due("5/[1-1]", hoursBy("hours 9;hours 5/[1-1]"), 9);
        due("5/liked, which is 0", hoursBy("hours 9;hours 5/liked"), 9);
        due("0*[1/0]", hoursBy("hours 9;hours 5+0*[1/0]"), 9);
        due("if 1/0=0", hoursBy("hours 9;hours 5 if 1/0=0"), 9);
        due("if 0=1/0", hoursBy("hours 9;hours 5 if 0=1/0"), 9);
        due("if not 1/0=0", hoursBy("hours 9;hours 5 if not 1/0=0"), 9);
        due("if not not 1/0=0", hoursBy("hours 9;hours 5 if not not 1/0=0"), 9);
        due("if (1/0=0)", hoursBy("hours 9;hours 5 if (1/0=0)"), 9);
        due("if 1/0<0", hoursBy("hours 9;hours 5 if 1/0<0"), 9);
        due("if 1/0>0", hoursBy("hours 9;hours 5 if 1/0>0"), 9);
        sentence("and neither that nor its SUM is BROKEN");
        due("a good test, a BROKEN sum", hoursBy("hours 9;hours 5/0 if 1=1"), 9);
        due("a BROKEN test, a good sum", hoursBy("hours 9;hours 5 if 5/0=5"), 9);
        due("a test that is not so, a BROKEN sum", hoursBy("hours 9;hours 5/0 if 1=2"), 9);
        due("both good", hoursBy("hours 9;hours 5/1 if 5/1=5"), 5);
    }

    private static void whatCanStillMatter() {
        sentence("\"or\", \"and\" ask what stands behind only if it can still matter");
        due("so or BROKEN", hoursBy("hours 9;hours 5 if 1=1 or 1/0=0"), 5);
        due("not so or BROKEN", hoursBy("hours 9;hours 5 if 1=2 or 1/0=0"), 9);
        due("BROKEN or so", hoursBy("hours 9;hours 5 if 1/0=0 or 1=1"), 9);
        due("BROKEN and not so", hoursBy("hours 9;hours 5 if not (1/0=0 and 1=2)"), 9);
        due("not so and BROKEN", hoursBy("hours 9;hours 5 if not (1=2 and 1/0=0)"), 5);
        due("so and BROKEN", hoursBy("hours 9;hours 5 if 1=1 and 1/0=0"), 9);
        due("not so and BROKEN or so", hoursBy("hours 9;hours 5 if 1=2 and 1/0=0 or 1=1"), 5);
        due("so or BROKEN and BROKEN", hoursBy("hours 9;hours 5 if 1=1 or 1/0=0 and 2/0=0"), 5);
        due("so or BROKEN or BROKEN", hoursBy("hours 9;hours 5 if 1=1 or 1/0=0 or 2/0=0"), 5);
        due("not so or so or BROKEN", hoursBy("hours 9;hours 5 if 1=2 or 1=1 or 2/0=0"), 5);
        due("not so or not so or BROKEN", hoursBy("hours 9;hours 5 if 1=2 or 1=3 or 2/0=0"), 9);
        due("not (not so and BROKEN and BROKEN)", hoursBy("hours 9;hours 5 if not(1=2 and 1/0=0 and 2/0=0)"), 5);
        due("not (so and not so and BROKEN)", hoursBy("hours 9;hours 5 if not(1=1 and 1=2 and 2/0=0)"), 5);
        due("(so or BROKEN) and so", hoursBy("hours 9;hours 5 if (1=1 or 1/0=0) and 2=2"), 5);
        due("so and (so or BROKEN)", hoursBy("hours 9;hours 5 if 2=2 and (1=1 or 1/0=0)"), 5);
        due("(so or BROKEN) and BROKEN", hoursBy("hours 9;hours 5 if (1=1 or 1/0=0) and 1/0=0"), 9);
    }

    private static void lessonsKeepsChances() {
        whatIsNotAskedOf();
        hoursOfLessons();
        daysKept();
        chancesOfLevels();
    }

    private static void whatIsNotAskedOf() {
        ExamSlips x = new ExamSlips();
        x.question(2, 30);
        x.question(3, 40);
        x.know(1, 1, 1);
        sentence("\"hours\" tells (of the QUESTION: king, pages, liked, question; level: the one it comes to; helped)");
        due("king", by(x, "hours king+5").takes(1, 1, 0), 8);
        due("pages", by(x, "hours pages/4").takes(1, 1, 0), 10);
        due("liked", by(x, "hours liked+5").takes(1, 1, 0), 6);
        due("liked", x.takes(0, 1, 0), 5);
        due("question", by(x, "hours question+5").takes(1, 1, 0), 6);
        due("question", x.takes(0, 1, 0), 5);
        due("level 1", by(x, "hours level+5+helped*10").takes(1, 1, 0), 6);
        due("level 2", x.takes(1, 2, 0), 7);
        due("helped", x.takes(1, 2, 1), 17);
        ExamSlips y = new ExamSlips();
        y.question(2, 30);
        y.question(3, 40);
        y.know(1, 1, 1);
        sentence("what it is not asked of is 0: day, but in a DIARY alone");
        due("takes", by(y, "hours day+7;keeps 5+day*9+helped*9").takes(1, 1, 0), 7);
        sentence("what it is not asked of is 0: helped and day of \"keeps\"");
        due("keeps", y.keeps(1, 1), 5);
        sentence("\"keeps\" tells of it (king, pages, liked, question) and the level it has");
        by(y, "keeps king+pages/10+liked*5+question*10+level");
        due("keeps(1, 1)", y.keeps(1, 1), 23);
        due("keeps(1, 2)", y.keeps(1, 2), 24);
        due("keeps(0, 1)", y.keeps(0, 1), 6);
        sentence("what \"chance\" tells of that level alone");
        by(y, "chance 20+level+[king+pages+liked+question+helped+day]*10");
        due("chance(0)", y.chance(0), 20);
        due("chance(1)", y.chance(1), 21);
        due("chance(2)", y.chance(2), 22);
    }

    private static void hoursOfLessons() {
        sentence("what \"hours\" tells, 1 .. 20 (else the nearest), 4 without");
        due("hours 0", hoursBy("hours 0"), 1);
        due("hours 1", hoursBy("hours 1"), 1);
        due("hours 20", hoursBy("hours 20"), 20);
        due("hours 21", hoursBy("hours 21"), 20);
        due("hours 0-1", hoursBy("hours 0-1"), 1);
        due("hours of a billion", hoursBy("hours 1000*1000*1000"), 20);
        due("hours of a billion below 0", hoursBy("hours 0-1000*1000*1000"), 1);
        due("without", of(1).takes(0, 1, 0), 4);
        sentence("One that is known well is only read AGAIN: 1 hour");
        ExamSlips x = by(of(1), "hours 9+helped");
        due("takes(0, 3, 0)", x.takes(0, 3, 0), 1);
        due("takes(0, 3, 1)", x.takes(0, 3, 1), 1);
        sentence("11. takes: a LEVEL (1, 2; 3: AGAIN)");
        due("takes(0, 0, 0)", x.takes(0, 0, 0), NONE);
        due("takes(0, 1, 0)", x.takes(0, 1, 0), 9);
        due("takes(0, 2, 0)", x.takes(0, 2, 0), 9);
        due("takes(0, 4, 0)", x.takes(0, 4, 0), NONE);
        due("takes(0, least, 0)", x.takes(0, LEAST, 0), NONE);
        due("takes(0, most, 0)", x.takes(0, MOST, 0), NONE);
        sentence("11. takes: helped (1) or not (0). NONE");
        due("takes(0, 1, 1)", x.takes(0, 1, 1), 10);
        due("takes(0, 1, 2)", x.takes(0, 1, 2), NONE);
        due("takes(0, 1, -1)", x.takes(0, 1, -1), NONE);
        due("takes(0, 3, 2)", x.takes(0, 3, 2), NONE);
        due("takes(0, 3, -1)", x.takes(0, 3, -1), NONE);
        sentence("11. takes: of a QUESTION. NONE");
        due("takes(-1, 1, 0)", x.takes(-1, 1, 0), NONE);
        due("takes(1, 1, 0)", x.takes(1, 1, 0), NONE);
        due("takes(1, 3, 0)", x.takes(1, 3, 0), NONE);
        due("takes(most, 1, 0)", x.takes(MOST, 1, 0), NONE);
    }

    private static void daysKept() {
        sentence("It keeps .. 1 .. 30 days, 10 without");
        due("keeps 0", by(of(1), "keeps 0").keeps(0, 1), 1);
        due("keeps 1", by(of(1), "keeps 1").keeps(0, 1), 1);
        due("keeps 2", by(of(1), "keeps 2").keeps(0, 1), 2);
        due("keeps 30", by(of(1), "keeps 30").keeps(0, 1), 30);
        due("keeps 31", by(of(1), "keeps 31").keeps(0, 1), 30);
        due("keeps 0-5", by(of(1), "keeps 0-5").keeps(0, 1), 1);
        due("without a CLAUSE that HOLDS", by(of(1), "keeps 5 if level=2").keeps(0, 1), 10);
        due("without", of(1).keeps(0, 2), 10);
        sentence("12. keeps: a LEVEL 1, 2. NONE");
        ExamSlips x = of(1);
        due("keeps(0, 0)", x.keeps(0, 0), NONE);
        due("keeps(0, 1)", x.keeps(0, 1), 10);
        due("keeps(0, 2)", x.keeps(0, 2), 10);
        due("keeps(0, 3)", x.keeps(0, 3), NONE);
        due("keeps(0, least)", x.keeps(0, LEAST), NONE);
        sentence("12. keeps: of a QUESTION. NONE");
        due("keeps(-1, 1)", x.keeps(-1, 1), NONE);
        due("keeps(1, 1)", x.keeps(1, 1), NONE);
        due("keeps(most, 1)", x.keeps(MOST, 1), NONE);
    }

    private static void chancesOfLevels() {
        sentence("CHANCE of a LEVEL .. 0 .. 100");
        due("chance 0-1", by(of(0), "chance 0-1").chance(1), 0);
        due("chance 0", by(of(0), "chance 0").chance(1), 0);
        due("chance 1", by(of(0), "chance 1").chance(1), 1);
        due("chance 99", by(of(0), "chance 99").chance(1), 99);
        due("chance 100", by(of(0), "chance 100").chance(1), 100);
        due("chance 101", by(of(0), "chance 101").chance(1), 100);
        sentence("without it 0, 50, 100 by levels");
        ExamSlips x = by(of(0), "chance 7 if level=1;chance 8 if level=5");
        due("chance(0)", x.chance(0), 0);
        due("chance(1)", x.chance(1), 7);
        due("chance(2)", x.chance(2), 100);
        due("chance(1) by none", of(0).chance(1), 50);
        sentence("13. chance: of a LEVEL 0 .. 2. NONE");
        due("chance(-1)", x.chance(-1), NONE);
        due("chance(3)", x.chance(3), NONE);
        due("chance(least)", x.chance(LEAST), NONE);
        due("chance(most)", x.chance(MOST), NONE);
    }

    // Terms III: lots, odds and schemes

    private static void bowlAndLot() {
        sentence("By lot LIE of them lie on the table (all, if there are fewer)");
        ExamSlips x = knowing(set(of(4), 3, 3, 1), 2);
        duePass(x, 3, 4);
        x.terms(LIE, 4);
        duePass(x, 1, 1);
        x.terms(LIE, 5);
        duePass(x, 1, 1);
        x.terms(LIE, 1);
        duePass(x, 1, 4);
        x.question(0, 1);
        x.terms(LIE, 4);
        duePass(x, 4, 5);
        sentence("LIE 1 .. 10: of 11 and of 20");
        duePass(knowing(set(of(11), 10, 1, 1), 2), 10, 11);
        duePass(knowing(set(of(10), 10, 1, 1), 2), 1, 1);
        // both of two lie there: 10/20 * 9/19
        duePass(knowing(set(of(20), 10, 2, 2), 2, 2), 9, 38);
        sentence("each set is as likely");
        // of 3 sets 01, 02, 12 two have one of 0 (well) and another, 12 has 2 (half) alone
        ExamSlips y = knowing(set(of(3), 2, 1, 1), 2, 0, 1);
        duePass(y, 5, 6);
        sentence("The BOWL: all that are not OUT");
        y.know(1, 2, 1);
        duePass(y, 1, 1);
        y.know(0, 2, 1);
        duePass(y, 1, 2);
        y.know(1, 2, 0);
        // 1 and 2 lie there; 2 is half known
        duePass(y, 1, 2);
        y.terms(LIE, 1);
        duePass(y, 1, 4);
        y.know(0, 2, 0);
        // 1/3 and a half of 1/3
        duePass(y, 1, 2);
        sentence("14. pass: upper (part 0), lower number (1). NONE");
        due("pass(-1)", y.pass(-1), NONE);
        due("pass(2)", y.pass(2), NONE);
        due("pass(least)", y.pass(LEAST), NONE);
        due("pass(most)", y.pass(MOST), NONE);
    }

    private static void leaning() {
        likedInTheBowl();
        leanOfAHundred();
        aLikedOneFirst();
        theOthersByLot();
    }

    private static void likedInTheBowl() {
        sentence("If there are LIKED ones in the BOWL");
        ExamSlips x = knowing(oneOf(2), 2);
        x.terms(LEAN, 100);
        duePass(x, 1, 2);
        x.know(0, 1, 1);
        duePass(x, 1, 1);
        x.know(0, 1, 0);
        x.know(1, 1, 1);
        duePass(x, 0, 1);
        sentence("If there are LIKED ones in the BOWL: one that is OUT is none of these");
        ExamSlips out = knowing(oneOf(3), 2);
        out.terms(LEAN, 100);
        out.know(2, 1, 1);
        duePass(out, 0, 1);
        out.know(2, 2, 1);
        duePass(out, 1, 2);
        sentence("and LIE at least 1 is less than all");
        ExamSlips y = knowing(set(of(4), 3, 1, 1), 0, 2);
        y.know(0, 1, 1);
        duePass(y, 3, 4);
        y.terms(LEAN, 100);
        // 0, then two of the other three
        duePass(y, 2, 3);
        y.terms(LEAN, 50);
        duePass(y, 17, 24);
        y.terms(LEAN, 100);
        y.terms(LIE, 4);
        duePass(y, 1, 1);
        y.terms(LIE, 5);
        duePass(y, 1, 1);
        y.terms(LIE, 1);
        duePass(y, 0, 1);
        y.know(3, 2, 1);
        y.know(2, 2, 1);
        duePass(y, 0, 1);
        y.know(0, 2, 1);
        duePass(y, 1, 1);
    }

    private static void leanOfAHundred() {
        sentence("with LEAN of a hundred: 0 .. 100");
        ExamSlips z = knowing(oneOf(2), 2);
        z.know(0, 1, 1);
        duePass(z, 1, 2);
        z.terms(LEAN, 1);
        duePass(z, 101, 200);
        z.terms(LEAN, 99);
        duePass(z, 199, 200);
        z.terms(LEAN, 100);
        duePass(z, 1, 1);
        z.terms(LEAN, 50);
        duePass(z, 3, 4);
        dueOdds("right 0", z.right(0, 0), z.right(0, 1), 1, 4);
        dueOdds("right 1", z.right(1, 0), z.right(1, 1), 3, 4);
        dueOdds("mean", z.mean(0), z.mean(1), 3, 4);
    }

    private static void aLikedOneFirst() {
        sentence("one of these, by lot, lies there first");
        ExamSlips two = knowing(oneOf(3), 2);
        two.know(0, 1, 1);
        two.know(1, 1, 1);
        two.terms(LEAN, 100);
        duePass(two, 1, 2);
        two.know(1, 0, 1);
        duePass(two, 3, 4);
        two.know(2, 0, 2);
        duePass(two, 3, 4);
        two.know(2, 1, 1);
        // all are liked: 1, 1/2 and 1 of three
        duePass(two, 5, 6);
    }

    private static void theOthersByLot() {
        sentence("and the others come by lot out of all the rest");
        ExamSlips rest = knowing(set(of(3), 2, 2, 2), 2, 2);
        rest.know(0, 1, 1);
        rest.know(1, 1, 1);
        duePass(rest, 1, 3);
        rest.terms(LEAN, 100);
        // 0 or 1, then one of the other two
        duePass(rest, 1, 2);
        rest.terms(LEAN, 40);
        // 60 of 1/3 and 40 of 1/2
        duePass(rest, 2, 5);
        rest.know(1, 0, 1);
        duePass(rest, 1, 5);
        rest.terms(WANTED, 1);
        // sets 01: 1, 02: 1, 12: 1/2; even 5/6; leaning: 0 first 1, 1 first (1 and 1/2) 3/4: 7/8
        duePass(rest, 17, 20);
        sentence("one that is liked of each LEVEL");
        ExamSlips levels = knowing(oneOf(6), 0, 1, 2);
        levels.terms(LEAN, 100);
        for (int q = 0; q < 3; q++) {
            levels.know(q, 1, 1);
        }
        duePass(levels, 1, 2);
        levels.terms(LIE, 2);
        levels.terms(WANTED, 2);
        levels.terms(ANSWERS, 2);
        // 2 first: 1/5 of a half; 1 first: 1/5 of a half; each a third
        duePass(levels, 1, 15);
    }

    private static void answersAndOdds() {
        answersOfThose();
        greatestChances();
        wantedOnes();
        rightAndMean();
    }

    private static void answersOfThose() {
        sentence("One answers ANSWERS of those that lie (all, if there are fewer)");
        ExamSlips x = knowing(set(of(3), 3, 3, 1), 1, 1, 1);
        dueOdds("right 3 of 3", x.right(3, 0), x.right(3, 1), 1, 8);
        x.terms(ANSWERS, 2);
        dueOdds("right 3 of 2", x.right(3, 0), x.right(3, 1), 0, 1);
        dueOdds("right 2 of 2", x.right(2, 0), x.right(2, 1), 1, 4);
        x.terms(ANSWERS, 1);
        dueOdds("right 2 of 1", x.right(2, 0), x.right(2, 1), 0, 1);
        dueOdds("right 1 of 1", x.right(1, 0), x.right(1, 1), 1, 2);
        dueOdds("right 0 of 1", x.right(0, 0), x.right(0, 1), 1, 2);
        x.terms(ANSWERS, 3);
        x.terms(LIE, 2);
        dueOdds("right 3 of 2 that lie", x.right(3, 0), x.right(3, 1), 0, 1);
        dueOdds("right 2 of 2 that lie", x.right(2, 0), x.right(2, 1), 1, 4);
        x.know(0, 2, 1);
        x.know(1, 2, 1);
        dueOdds("right 2 of 1 that lies", x.right(2, 0), x.right(2, 1), 0, 1);
        dueOdds("mean of 1 that lies", x.mean(0), x.mean(1), 1, 2);
    }

    private static void greatestChances() {
        sentence("those with the greatest CHANCES");
        ExamSlips y = knowing(set(of(3), 3, 1, 1), 0, 1, 2);
        duePass(y, 1, 1);
        by(y, "chance 30-level*10");
        duePass(y, 3, 10);
        by(y, "chance 30-level*10;chance 60 if level=1");
        duePass(y, 3, 5);
        y.terms(ANSWERS, 2);
        // 60 and 30
        dueOdds("right 2", y.right(2, 0), y.right(2, 1), 9, 50);
        by(y, "chance 10;chance 60 if level=1");
        dueOdds("right 2, of alike ones any", y.right(2, 0), y.right(2, 1), 3, 50);
        sentence("each is RIGHT by its CHANCE, by itself");
        ExamSlips z = by(knowing(set(of(2), 2, 2, 2), 1, 2), "chance 20;chance 30 if level=2");
        dueOdds("right 0", z.right(0, 0), z.right(0, 1), 14, 25);
        dueOdds("right 1", z.right(1, 0), z.right(1, 1), 19, 50);
        dueOdds("right 2", z.right(2, 0), z.right(2, 1), 3, 50);
        dueOdds("mean", z.mean(0), z.mean(1), 1, 2);
        sentence("CHANCE 0 is never, 100 always RIGHT");
        by(z, "chance 0");
        duePass(z, 0, 1);
        by(z, "chance 100");
        duePass(z, 1, 1);
        by(z, "chance 1");
        duePass(z, 1, 10_000);
        by(z, "chance 99");
        duePass(z, 9801, 10_000);
    }

    private static void wantedOnes() {
        sentence("One PASSES with at least WANTED RIGHT ones");
        ExamSlips three = knowing(set(of(3), 3, 3, 1), 2, 1, 1);
        duePass(three, 1, 1);
        three.terms(WANTED, 2);
        duePass(three, 3, 4);
        three.terms(WANTED, 3);
        duePass(three, 1, 4);
        three.terms(ANSWERS, 2);
        duePass(three, 0, 1);
        three.terms(WANTED, 2);
        duePass(three, 1, 2);
        three.terms(LIE, 1);
        duePass(three, 0, 1);
        sentence("ODDS are told as a fraction in lowest terms (0 by 1; 1 by 1)");
        duePass(set(of(20), 10, 3, 1), 0, 1);
        ExamSlips all = set(of(20), 10, 3, 3);
        for (int q = 0; q < 20; q++) {
            all.know(q, 0, 2);
        }
        duePass(all, 1, 1);
        dueOdds("right 2", all.right(2, 0), all.right(2, 1), 0, 1);
        dueOdds("right 3", all.right(3, 0), all.right(3, 1), 1, 1);
        dueOdds("mean", all.mean(0), all.mean(1), 3, 1);
    }

    private static void rightAndMean() {
        sentence("15. right: just so many RIGHT ones (0 .. 3): likewise. NONE");
        ExamSlips x = of(3);
        due("right(-1, 0)", x.right(-1, 0), NONE);
        due("right(4, 0)", x.right(4, 0), NONE);
        due("right(0, -1)", x.right(0, -1), NONE);
        due("right(0, 2)", x.right(0, 2), NONE);
        due("right(most, 1)", x.right(MOST, 1), NONE);
        sentence("16. mean: as a fraction in lowest terms: likewise. NONE");
        // 1 and 1/2 of one each, of four one lies there: 3/2 of 4
        ExamSlips mean = knowing(oneOf(4), 2, 1);
        due("mean(-1)", mean.mean(-1), NONE);
        due("mean(2)", mean.mean(2), NONE);
        dueOdds("mean", mean.mean(0), mean.mean(1), 3, 8);
        // 3 of 4 lie there, all are answered: three quarters of 3/2
        mean.terms(LIE, 3);
        mean.terms(ANSWERS, 3);
        dueOdds("mean", mean.mean(0), mean.mean(1), 9, 8);
        mean.know(2, 0, 2);
        mean.know(3, 0, 2);
        dueOdds("mean", mean.mean(0), mean.mean(1), 21, 8);
    }

    private static void sureSafeWorth() {
        sureOfSoMany();
        safe();
        worthOfQuestions();
        worthThatLeans();
    }

    private static void sureOfSoMany() {
        sentence("17. sure: if so many (0 .. 20) .. NONE (more than there are)");
        ExamSlips x = knowing(oneOf(20), 2, 2, 1);
        dueOdds("sure 0", x.sure(0, 0), x.sure(0, 1), 0, 1);
        dueOdds("sure 1", x.sure(1, 0), x.sure(1, 1), 1, 20);
        dueOdds("sure 20", x.sure(20, 0), x.sure(20, 1), 1, 1);
        due("sure(21, 0)", x.sure(21, 0), NONE);
        due("sure(-1, 0)", x.sure(-1, 0), NONE);
        due("sure(1, -1)", x.sure(1, -1), NONE);
        due("sure(1, 2)", x.sure(1, 2), NONE);
        due("sure(least, 0)", x.sure(LEAST, 0), NONE);
        due("sure(most, 0)", x.sure(MOST, 0), NONE);
        sentence("17. sure: of the QUESTIONS in the BOWL");
        x.know(0, 2, 1);
        due("sure(20, 0) of 19", x.sure(20, 0), NONE);
        dueOdds("sure 19", x.sure(19, 0), x.sure(19, 1), 1, 1);
        dueOdds("sure 18", x.sure(18, 0), x.sure(18, 1), 18, 19);
        sentence("17. sure: LEAN 0");
        x.know(1, 1, 1);
        x.terms(LEAN, 100);
        dueOdds("sure 1", x.sure(1, 0), x.sure(1, 1), 1, 19);
        sentence("17. sure: all others not known, by their CHANCE");
        ExamSlips some = by(oneOf(2), "chance 10;chance 60 if level=2");
        dueOdds("sure 0", some.sure(0, 0), some.sure(0, 1), 1, 10);
        dueOdds("sure 1", some.sure(1, 0), some.sure(1, 1), 7, 20);
        dueOdds("sure 2", some.sure(2, 0), some.sure(2, 1), 3, 5);
    }

    private static void safe() {
        sentence("18. safe: the fewest known well with which one can't fail so; NONE");
        ExamSlips y = set(of(6), 3, 2, 2);
        // of any 3 that lie there 1 at most may not be known
        due("safe()", y.safe(), 5);
        y.terms(WANTED, 1);
        due("safe(), 1 wanted", y.safe(), 4);
        y.terms(LIE, 6);
        due("safe(), all lie there", y.safe(), 1);
        y.terms(WANTED, 3);
        due("safe(), more wanted than answered", y.safe(), NONE);
        due("safe(), chance 0 is enough", by(oneOf(3), "chance 100").safe(), 0);
        due("safe(), never sure", by(oneOf(3), "chance 99").safe(), NONE);
        due("safe() of all", oneOf(20).safe(), 20);
        ExamSlips liked = oneOf(2);
        liked.know(0, 1, 1);
        liked.terms(LEAN, 100);
        due("safe(), LEAN 0", liked.safe(), 2);
        liked.know(0, 2, 1);
        due("safe(), in the BOWL", liked.safe(), 1);
    }

    private static void worthOfQuestions() {
        sentence("WORTH: ODDS to PASS .. well less those if it were not known, in millionths of each, cut");
        ExamSlips z = knowing(oneOf(3), 0, 2, 1);
        // 5/6 and 3/6
        due("worth(0)", z.worth(0), 833_333 - 500_000);
        // 3/6 and 1/6: 500,000 and 166,666
        due("worth(1)", z.worth(1), 333_334);
        // 2/3 and 1/3: 666,666 and 333,333
        due("worth(2)", z.worth(2), 333_333);
        due("of(2, 2) is as it was", z.of(2, 2), 1);
        sentence("WORTH: most, nothing, below 0");
        due("of all", oneOf(1).worth(0), 1_000_000);
        due("of nothing", by(oneOf(1), "chance 50").worth(0), 0);
        due("below 0", by(oneOf(1), "chance 100-level*50").worth(0), -1_000_000);
        due("more wanted than answered", set(of(1), 1, 1, 2).worth(0), 0);
    }

    private static void worthThatLeans() {
        sentence("WORTH by a lot that leans");
        ExamSlips lean = oneOf(2);
        lean.know(0, 1, 1);
        lean.terms(LEAN, 50);
        due("worth(0)", lean.worth(0), 750_000);
        due("worth(1)", lean.worth(1), 250_000);
        sentence("19. worth: (0 of one that is OUT). NOTHING (-10,000,000) without");
        ExamSlips x = oneOf(3);
        due("worth(0)", x.worth(0), 333_333);
        x.know(0, 2, 1);
        due("worth(0)", x.worth(0), 0);
        due("worth(-1)", x.worth(-1), NOTHING);
        due("worth(3)", x.worth(3), NOTHING);
        due("worth(least)", x.worth(LEAST), NOTHING);
        due("worth(most)", x.worth(MOST), NOTHING);
    }

    /** A question of each king; one lies there, one is answered, one right is wanted. */
    private static ExamSlips kings(String text, int... kings) {
        ExamSlips x = new ExamSlips();
        for (int king : kings) {
            x.question(king, 10);
        }
        return by(set(x, 1, 1, 1), text);
    }

    private static void schemes() {
        levelsOfAScheme();
        helpInAScheme();
    }

    private static void levelsOfAScheme() {
        sentence("A SCHEME gives each QUESTION in the BOWL a LEVEL 0 .. 2, from LEVEL 0");
        ExamSlips x = knowing(oneOf(2), 2, 1);
        // 4 hours a LESSON, whatever is known now
        dueBest(x, 400, 1, 1, 16);
        dueBest(x, 16, 1, 1, 16);
        dueBest(x, 15, 3, 4, 12);
        x.know(0, 2, 1);
        dueBest(x, 400, 1, 1, 8);
        sentence("helped: whether one of the same KING (not 0) with a lower number in the BOWL has a LEVEL above 0");
        // 20 a LESSON, 1 if helped
        dueBest(kings("hours 20-helped*19", 3, 3), 400, 1, 1, 42);
        dueBest(kings("hours 20-helped*19", 0, 0), 400, 1, 1, 80);
        dueBest(kings("hours 20-helped*19", 3, 4), 400, 1, 1, 80);
        dueBest(kings("hours 20-helped*19", 1, 1, 1), 400, 1, 1, 44);
        dueBest(kings("hours 20-helped*19", 1, 2, 1), 400, 1, 1, 82);
        dueBest(kings("hours 20-helped*19", 1, 2, 1, 2), 400, 1, 1, 84);
        dueBest(kings("hours 20-helped*19", 4, 3, 2, 1, 0, 4, 3, 2, 1, 0), 400, 1, 1, 248);
        sentence("helped: a lower number, not a higher one");
        // 0 half and 1 well, 20, 1 and 1, take less than 0 well and 1 half
        dueBest(kings("hours 20;hours 1 if question=1 and helped=1", 3, 3), 41, 3, 4, 22);
        dueBest(kings("hours 20;hours 1 if question=0 and helped=1", 3, 3), 400, 1, 1, 80);
        sentence("helped: a LEVEL above 0, even 1");
        // 0 half and 1 well: 20, 1 and 1
        dueBest(kings("hours 20-helped*19", 3, 3), 22, 3, 4, 22);
        dueBest(kings("hours 20-helped*19", 3, 3), 21, 1, 2, 21);
        sentence("helped: in the BOWL");
        ExamSlips out = kings("hours 20-helped*19", 3, 3);
        out.know(0, 0, 2);
        out.know(0, 2, 1);
        dueBest(out, 400, 1, 1, 40);
    }

    private static void helpInAScheme() {
        sentence("the hours of all LESSONS: helped at LEVEL 1 alone, at LEVEL 2 alone");
        dueBest(kings("hours 9;hours 2 if helped=1 and level=1", 3, 3), 400, 1, 1, 18 + 11);
        dueBest(kings("hours 9;hours 3 if helped=1 and level=2", 3, 3), 400, 1, 1, 18 + 12);
        // half by 5, or by 3 if helped; well by 10 in any case
        dueBest(kings("hours 5-helped*2;hours 5+helped*2 if level=2", 3, 3), 8, 1, 2, 8);
        dueBest(kings("hours 5-helped*2;hours 5+helped*2 if level=2", 3, 3), 7, 1, 4, 5);
        sentence("helped: a LESSON may take more then");
        dueBest(kings("hours 2+helped*3", 3, 3), 400, 1, 1, 4 + 10);
        // 0 not and 1 well are 4, 0 half and 1 half are 7
        dueBest(kings("hours 2+helped*3", 3, 3), 7, 1, 2, 4);
        dueLevels(kings("hours 2+helped*3", 3, 3), 7, 0, 2);
        sentence("day is not asked of: 0");
        dueBest(kings("hours 3+day*9", 1), 400, 1, 1, 6);
    }

    private static void bestAndFirst() {
        bestForHours();
        bestOfManyKinds();
        bestIsOfNothingKnown();
        firstOfTheBest();
        levelsOfTheFirst();
        bestIsAsThingsAre();
    }

    private static void bestForHours() {
        sentence("BEST for so many hours (0 .. 400)");
        ExamSlips x = oneOf(3);
        dueBest(x, 0, 0, 1, 0);
        dueBest(x, 400, 1, 1, 24);
        due("best(-1, 0)", x.best(-1, 0), NONE);
        due("best(401, 0)", x.best(401, 0), NONE);
        due("best(401, 2)", x.best(401, 2), NONE);
        due("best(least, 2)", x.best(LEAST, 2), NONE);
        due("best(most, 2)", x.best(MOST, 2), NONE);
        sentence("20. best: upper (part 0), lower number (1), the hours it takes (2). NONE");
        due("best(8, -1)", x.best(8, -1), NONE);
        due("best(8, 3)", x.best(8, 3), NONE);
        due("best(8, most)", x.best(8, MOST), NONE);
        sentence("of SCHEMES that take no more");
        ExamSlips y = oneOf(3);
        dueBest(y, 3, 0, 1, 0);
        dueBest(y, 4, 1, 6, 4);
        dueBest(y, 7, 1, 6, 4);
        dueBest(y, 8, 1, 3, 8);
        dueBest(y, 23, 5, 6, 20);
        dueBest(y, 24, 1, 1, 24);
        sentence("BEST: hours up to 400 are asked of");
        ExamSlips long400 = by(oneOf(10), "hours 20");
        dueBest(long400, 399, 19, 20, 380);
        dueBest(long400, 400, 1, 1, 400);
    }

    private static void bestOfManyKinds() {
        sentence("BEST: LIE 10 of 20");
        ExamSlips ten = by(set(of(20), 10, 1, 1), "hours 1");
        // one well: it lies there by a half; 10 well and 1 half: only one set of 184,756 has none well
        dueBest(ten, 2, 1, 2, 2);
        dueBest(ten, 20, 184_755, 184_756, 20);
        dueBest(ten, 21, 369_511, 369_512, 21);
        dueBest(ten, 400, 1, 1, 22);
        sentence("BEST: ANSWERS 1 .. 3, WANTED 1 .. 3");
        dueBest(set(of(3), 3, 3, 3), 400, 1, 1, 24);
        dueBest(set(of(3), 3, 3, 2), 400, 1, 1, 16);
        dueBest(set(of(3), 3, 3, 1), 400, 1, 1, 8);
        dueBest(set(of(3), 3, 3, 3), 12, 1, 8, 12);
        dueBest(set(of(3), 3, 2, 3), 400, 0, 1, 0);
        sentence("BEST: answered are all that lie there, if there are fewer than ANSWERS");
        ExamSlips fewer = by(set(of(2), 2, 3, 2), "chance 50;chance 70 if level=1;chance 100 if level=2");
        dueBest(fewer, 0, 1, 4, 0);
        dueBest(fewer, 4, 7, 20, 4);
        dueBest(fewer, 8, 1, 2, 8);
        dueBest(fewer, 12, 7, 10, 12);
        sentence("BEST: two half are two first LESSONS");
        ExamSlips first = by(set(of(2), 2, 2, 2), "hours 10;hours 1 if level=2");
        dueBest(first, 19, 0, 1, 0);
        dueBest(first, 20, 1, 4, 20);
        dueBest(first, 21, 1, 2, 21);
        dueBest(first, 22, 1, 1, 22);
    }

    private static void bestIsOfNothingKnown() {
        sentence("if LEAN is 0 and all others are not known");
        ExamSlips y = knowing(oneOf(2), 2, 2);
        y.know(0, 1, 1);
        y.terms(LEAN, 100);
        dueBest(y, 0, 0, 1, 0);
        dueBest(y, 8, 1, 2, 8);
        dueLevels(y, 8, 0, 2);
        sentence("of these those that take the fewest");
        // well is no better than half
        dueBest(by(oneOf(2), "chance 100;chance 0 if level=0"), 400, 1, 1, 8);
        dueBest(by(oneOf(2), "chance 50"), 400, 1, 2, 0);
        dueBest(set(of(2), 1, 1, 3), 400, 0, 1, 0);
        dueLevels(set(of(2), 1, 1, 3), 400, 0, 0);
        // 1 well takes 4 hours, 0 and 1 half take 5
        ExamSlips z = by(oneOf(2), "hours 3;hours 2 if question=1");
        dueBest(z, 5, 1, 2, 4);
        dueLevels(z, 5, 0, 2);
        dueBest(z, 2, 1, 4, 2);
        dueLevels(z, 2, 0, 1);
        dueBest(z, 7, 3, 4, 7);
        dueLevels(z, 7, 1, 2);
        dueBest(by(oneOf(2), "hours 2;hours 3 if question=1"), 2, 1, 4, 2);
        // one well takes 12 hours, both half take 4
        ExamSlips w = by(oneOf(2), "hours 2;hours 10 if level=2");
        dueBest(w, 12, 1, 2, 4);
        dueLevels(w, 12, 1, 1);
    }

    private static void firstOfTheBest() {
        sentence("the FIRST of these as a row of LEVELS by numbers, lower ones ahead");
        ExamSlips v = oneOf(3);
        dueLevels(v, 0, 0, 0, 0);
        dueLevels(v, 3, 0, 0, 0);
        dueLevels(v, 4, 0, 0, 1);
        dueLevels(v, 8, 0, 0, 2);
        dueLevels(v, 12, 0, 1, 2);
        dueLevels(v, 16, 0, 2, 2);
        dueLevels(v, 20, 1, 2, 2);
        dueLevels(v, 24, 2, 2, 2);
        dueLevels(v, 400, 2, 2, 2);
        // two lie there, both wanted: two half are better than one well, 5/12 better than 1/3
        dueLevels(set(of(3), 2, 2, 2), 8, 0, 1, 1);
        dueLevels(set(of(3), 2, 2, 2), 16, 1, 1, 2);
        sentence("the FIRST of these, where help makes hours alike");
        // 6 hours: a half one helps another to well, or two others to half
        ExamSlips help = kings("hours 4;hours 1 if helped=1", 2, 2, 2);
        dueBest(help, 6, 1, 2, 6);
        dueLevels(help, 6, 0, 1, 2);
        // one half and two well: 0 (4), 1 (1 and 1), 2 (1 and 1)
        dueBest(help, 8, 5, 6, 8);
        dueLevels(help, 8, 1, 2, 2);
        dueLevels(help, 5, 0, 1, 1);
        dueLevels(help, 4, 0, 0, 1);
    }

    private static void levelsOfTheFirst() {
        sentence("21. level: for so many hours. NONE");
        ExamSlips v = oneOf(3);
        due("level(-1, 0)", v.level(-1, 0), NONE);
        due("level(401, 0)", v.level(401, 0), NONE);
        due("level(least, 0)", v.level(LEAST, 0), NONE);
        due("level(most, 0)", v.level(MOST, 0), NONE);
        sentence("21. level: of a QUESTION (NONE: it is OUT). NONE");
        due("level(8, -1)", v.level(8, -1), NONE);
        due("level(8, 3)", v.level(8, 3), NONE);
        due("level(8, most)", v.level(8, MOST), NONE);
        v.know(1, 2, 1);
        dueLevels(v, 8, 0, NONE, 2);
        dueLevels(v, 16, 2, NONE, 2);
    }

    private static void bestIsAsThingsAre() {
        sentence("BEST is as things are now");
        ExamSlips v = oneOf(3);
        v.know(1, 2, 1);
        dueLevels(v, 16, 2, NONE, 2);
        v.know(1, 2, 0);
        dueLevels(v, 16, 0, 2, 2);
        v.question(0, 1);
        dueLevels(v, 16, 0, 0, 2, 2);
        v.terms(WANTED, 2);
        dueLevels(v, 16, 0, 0, 0, 0);
        v.terms(WANTED, 1);
        by(v, "hours 8");
        dueLevels(v, 16, 0, 0, 0, 2);
        by(v, "hours 8-liked*7");
        v.know(0, 1, 1);
        dueLevels(v, 16, 2, 0, 0, 1);
        v.use(NONE);
        dueLevels(v, 16, 0, 0, 2, 2);
        by(v, "chance 100;chance 0 if level=0");
        dueLevels(v, 16, 1, 1, 1, 1);
    }

    private static void enoughHours() {
        sentence("so many hundredths (0 .. 100) at least");
        ExamSlips x = oneOf(4);
        due("enough(-1)", x.enough(-1), NONE);
        due("enough(0)", x.enough(0), 0);
        due("enough(1)", x.enough(1), 4);
        due("enough(100)", x.enough(100), 32);
        due("enough(101)", x.enough(101), NONE);
        due("enough(least)", x.enough(LEAST), NONE);
        due("enough(most)", x.enough(MOST), NONE);
        sentence("ENOUGH: a fraction of so many hundredths at least: just so many are");
        // an eighth by 4 hours, a quarter by 8, three eighths by 12
        due("enough(12)", x.enough(12), 4);
        due("enough(13)", x.enough(13), 8);
        due("enough(25)", x.enough(25), 8);
        due("enough(26)", x.enough(26), 12);
        due("enough(37)", x.enough(37), 12);
        due("enough(38)", x.enough(38), 16);
        due("enough(75)", x.enough(75), 24);
        due("enough(76)", x.enough(76), 28);
        // 1 less 71 of a hundred squared, 1 less 9 of a hundred squared
        due("enough(49) of 49.59", by(set(of(2), 2, 2, 1), "chance 29").enough(49), 0);
        due("enough(50) of 49.59", by(set(of(2), 2, 2, 1), "chance 29").enough(50), NONE);
        due("enough(99) of 99.19", by(set(of(2), 2, 2, 1), "chance 91").enough(99), 0);
        due("enough(100) of 99.19", by(set(of(2), 2, 2, 1), "chance 91").enough(100), NONE);
        sentence("22. NONE: no hours up to 400 are");
        ExamSlips y = by(oneOf(20), "hours 20");
        // 20 hours each 40th part
        due("enough(50)", y.enough(50), 400);
        due("enough(51)", y.enough(51), NONE);
        ExamSlips z = by(oneOf(20), "hours 20;hours 1 if question=10 and level=1");
        // 20 parts take 381 hours, 21 take 401
        due("enough(50)", z.enough(50), 381);
        due("enough(51)", z.enough(51), NONE);
        due("enough(52)", z.enough(52), NONE);
        due("enough(1), never", set(of(3), 1, 1, 2).enough(1), NONE);
        due("enough(0), even so", set(of(3), 1, 1, 2).enough(0), 0);
        sentence("ENOUGH: the fewest hours, without any if the CHANCE of what is not known is enough");
        ExamSlips w = by(oneOf(2), "chance 40+level*30");
        due("enough(40)", w.enough(40), 0);
        due("enough(41)", w.enough(41), 4);
        due("enough(55)", w.enough(55), 4);
        due("enough(56)", w.enough(56), 8);
        due("enough(100)", w.enough(100), 16);
    }

    // Terms IV: diaries, backward, friends, days ill

    private static void diary() {
        lessonsOfADiary();
        hoursOfADay();
        helpInADiary();
        askingTheDiary();
    }

    private static void lessonsOfADiary() {
        hundredTwentyLessons();
        howADiaryBegins();
        inOrderAsTold();
    }

    private static void hundredTwentyLessons() {
        sentence("LESSONS told for DAYS, 120 at most");
        ExamSlips x = of(2);
        for (int i = 1; i <= 120; i++) {
            due("lesson(19, 1)", x.lesson(19, 1), i);
        }
        due("lesson(19, 1) for the 121st", x.lesson(19, 1), -5);
        due("lesson(0, 0) for the 121st", x.lesson(0, 0), -5);
        due("count(3)", x.count(3), 120);
        sentence("24. clear: The DIARY is empty then: how many LESSONS it had");
        due("clear()", x.clear(), 120);
        due("clear() of an empty one", x.clear(), 0);
        due("count(3)", x.count(3), 0);
        due("lesson(0, 0)", x.lesson(0, 0), 1);
        due("behind(0, 0)", x.behind(0, 0), 1);
        due("clear()", x.clear(), 1);
        due("behind(0, 0)", x.behind(0, 0), 0);
        sentence("23. lesson: for a DAY (0 .. 19). -1");
        due("lesson(-1, 0)", x.lesson(-1, 0), -1);
        due("lesson(20, 0)", x.lesson(20, 0), -1);
        due("lesson(least, 0)", x.lesson(LEAST, 0), -1);
        due("lesson(most, 0)", x.lesson(MOST, 0), -1);
        due("lesson(0, 0)", x.lesson(0, 0), 1);
        due("lesson(19, 0)", x.lesson(19, 0), 2);
        sentence("23. lesson: -2");
        due("lesson(0, -1)", x.lesson(0, -1), -2);
        due("lesson(0, 2)", x.lesson(0, 2), -2);
        due("lesson(0, most)", x.lesson(0, MOST), -2);
    }

    private static void howADiaryBegins() {
        sentence("By it all begin as not known");
        ExamSlips y = knowing(of(1), 2);
        due("behind(0, 0)", y.behind(0, 0), 0);
        y.lesson(1, 0);
        dueDays(y, 0, 0, 1);
        due("of(0, 2)", y.of(0, 2), 2);
        sentence("it goes by the PAPER in USE now");
        ExamSlips z = of(1);
        z.lesson(0, 0);
        due("behind(0, NONE)", z.behind(0, NONE), 4);
        by(z, "hours 6");
        due("behind(0, NONE)", z.behind(0, NONE), 6);
        by(z, "hours 7");
        due("behind(0, NONE)", z.behind(0, NONE), 0);
        z.use(NONE);
        due("behind(0, NONE)", z.behind(0, NONE), 4);
    }

    private static void inOrderAsTold() {
        sentence("in order as told of each DAY");
        ExamSlips w = by(of(3), "hours 2;hours 5 if question=1");
        w.lesson(1, 0);
        w.lesson(0, 1);
        w.lesson(1, 1);
        w.lesson(0, 0);
        w.lesson(1, 2);
        // day 0: 5 of 6, then 2 do not fit; day 1: 2 of 6, then 5 do not fit
        due("behind(0, 1)", w.behind(0, 1), 1);
        due("behind(0, 0)", w.behind(0, 0), 0);
        due("behind(1, 0)", w.behind(1, 0), 1);
        due("behind(1, 1)", w.behind(1, 1), 1);
        due("behind(1, 2)", w.behind(1, 2), 0);
        due("judge(0)", w.judge(0), 3);
    }

    private static void hoursOfADay() {
        theFirstThatDoesNotFit();
        allBehindIt();
        oneLevelMore();
    }

    private static void theFirstThatDoesNotFit() {
        sentence("The first LESSON that takes more than is left of the day's HOURS .. DROPPED");
        ExamSlips x = days(of(3), 2, 8);
        x.lesson(0, 0);
        x.lesson(0, 1);
        due("judge(0), 4 and 4 of 8", x.judge(0), 0);
        due("behind(0, NONE)", x.behind(0, NONE), 8);
        x.terms(HOURS, 7);
        due("judge(0), 4 and 4 of 7", x.judge(0), 1);
        due("behind(0, NONE)", x.behind(0, NONE), 4);
        due("behind(0, 1)", x.behind(0, 1), 0);
        x.terms(HOURS, 4);
        due("judge(0), 4 and 4 of 4", x.judge(0), 1);
        x.terms(HOURS, 3);
        due("judge(0), 4 and 4 of 3", x.judge(0), 2);
        due("behind(0, NONE)", x.behind(0, NONE), 0);
        x.terms(HOURS, 0);
        due("judge(0) without hours", x.judge(0), 2);
        x.terms(HOURS, 16);
        x.lesson(0, 2);
        x.lesson(0, 0);
        due("judge(0), 16 of 16", x.judge(0), 0);
        due("behind(0, NONE)", x.behind(0, NONE), 16);
        x.lesson(0, 0);
        due("judge(0), AGAIN of none left", x.judge(0), 1);
    }

    private static void allBehindIt() {
        sentence("and all behind it on that DAY, are DROPPED");
        ExamSlips y = by(days(of(2), 3, 5), "hours 2;hours 4 if question=1");
        y.lesson(1, 0);
        y.lesson(1, 1);
        y.lesson(1, 0);
        y.lesson(2, 0);
        due("judge(0), the 3rd would fit", y.judge(0), 2);
        due("behind(1, 0)", y.behind(1, 0), 1);
        due("behind(1, NONE)", y.behind(1, NONE), 2);
        sentence("DROPPED on that DAY: the next has all its HOURS");
        due("behind(2, 0)", y.behind(2, 0), 2);
        due("behind(2, NONE)", y.behind(2, NONE), 2);
        due("judge(1)", y.judge(1), 1);
        sentence("26. judge: the first DAY with one (1; NONE)");
        y.lesson(0, 1);
        due("judge(1), 4 of 5 fit", y.judge(1), 1);
        y.lesson(0, 1);
        due("judge(1), day 0", y.judge(1), 0);
        due("judge(0)", y.judge(0), 3);
        y.clear();
        due("judge(1)", y.judge(1), NONE);
        due("judge(0)", y.judge(0), 0);
        sentence("26. judge: what 0 .. 2. NONE");
        due("judge(-1)", y.judge(-1), NONE);
        due("judge(3)", y.judge(3), NONE);
    }

    private static void oneLevelMore() {
        sentence("the QUESTION's LEVEL is 1 more (at 2: AGAIN)");
        ExamSlips z = by(days(of(1), 1, 16), "hours 3;hours 5 if level=2;hours 9 if level=3");
        z.lesson(0, 0);
        due("behind(0, NONE) to 1", z.behind(0, NONE), 3);
        due("behind(0, 0)", z.behind(0, 0), 1);
        z.lesson(0, 0);
        due("behind(0, NONE) to 2", z.behind(0, NONE), 8);
        due("behind(0, 0)", z.behind(0, 0), 2);
        z.lesson(0, 0);
        due("behind(0, NONE) AGAIN", z.behind(0, NONE), 9);
        due("behind(0, 0)", z.behind(0, 0), 2);
        sentence("day: the DAY, in a DIARY alone");
        ExamSlips w = by(days(of(1), 20, 16), "hours 2+day/2;keeps 30");
        w.lesson(0, 0);
        w.lesson(19, 0);
        due("behind(0, NONE)", w.behind(0, NONE), 2);
        due("behind(19, NONE)", w.behind(19, NONE), 11);
    }

    private static void helpInADiary() {
        helpedByAnotherOne();
        helpedByWhatIsKnownThen();
        helpedAmongTwenty();
    }

    private static void helpedByAnotherOne() {
        sentence("helped: another one of its KING (not 0) has a LEVEL above 0 then");
        ExamSlips x = days(kings(HELPED, 3, 3), 10, 16);
        x.lesson(0, 0);
        x.lesson(0, 0);
        due("itself is not another one", x.behind(0, NONE), 10);
        x.lesson(0, 1);
        due("helped by what was learned that day", x.behind(0, NONE), 12);
        ExamSlips higher = days(kings(HELPED, 3, 3), 10, 16);
        higher.lesson(0, 1);
        higher.lesson(1, 0);
        due("helped by a higher number", higher.behind(1, NONE), 2);
        ExamSlips none = days(kings(HELPED, 0, 0), 10, 16);
        none.lesson(0, 0);
        none.lesson(0, 1);
        due("KING 0", none.behind(0, NONE), 10);
        ExamSlips other = days(kings(HELPED, 3, 4), 10, 16);
        other.lesson(0, 0);
        other.lesson(0, 1);
        due("another KING", other.behind(0, NONE), 10);
        ExamSlips out = days(kings(HELPED, 3, 3), 10, 16);
        out.know(0, 2, 1);
        out.lesson(0, 0);
        out.lesson(0, 1);
        due("one that is OUT", out.behind(0, NONE), 7);
    }

    private static void helpedByWhatIsKnownThen() {
        sentence("helped: .. has a LEVEL above 0 then: not what is KNOWN else");
        ExamSlips known = days(kings(HELPED, 3, 3), 10, 16);
        known.know(0, 0, 2);
        known.lesson(0, 1);
        due("behind(0, NONE)", known.behind(0, NONE), 5);
        sentence("helped: .. has a LEVEL above 0 then: not what was forgotten");
        ExamSlips forgotten = days(kings(HELPED, 3, 3), 10, 16);
        forgotten.lesson(0, 0);
        forgotten.lesson(2, 1);
        forgotten.lesson(3, 1);
        due("behind(2, NONE), it falls at the end of day 2", forgotten.behind(2, NONE), 2);
        due("behind(3, NONE)", forgotten.behind(3, NONE), 5);
        sentence("helped: .. has a LEVEL above 0 then: not what was DROPPED");
        ExamSlips dropped = days(kings(HELPED, 3, 3), 10, 4);
        dropped.lesson(0, 0);
        dropped.lesson(1, 1);
        due("behind(1, NONE)", dropped.behind(1, NONE), 0);
        due("judge(0)", dropped.judge(0), 2);
    }

    private static void helpedAmongTwenty() {
        sentence("helped: another one of its KING: of 20 QUESTIONS");
        ExamSlips many = new ExamSlips();
        for (int q = 0; q < 20; q++) {
            many.question(q < 18 ? 1 : 2, 10);
        }
        by(days(many, 10, 16), HELPED);
        many.lesson(0, 0);
        many.lesson(0, 19);
        due("behind(0, NONE)", many.behind(0, NONE), 10);
        many.lesson(0, 18);
        due("behind(0, NONE)", many.behind(0, NONE), 12);
        due("behind(0, 19)", many.behind(0, 19), 1);
    }

    private static void askingTheDiary() {
        behindADay();
        lessonsBeyondTheDays();
        learning();
    }

    private static void behindADay() {
        sentence("25. behind: a DAY (0 .. DAYS less 1). NONE");
        ExamSlips x = of(1);
        due("behind(-1, 0)", x.behind(-1, 0), NONE);
        due("behind(0, 0)", x.behind(0, 0), 0);
        due("behind(18, 0)", x.behind(18, 0), 0);
        due("behind(19, 0)", x.behind(19, 0), NONE);
        due("behind(19, NONE)", x.behind(19, NONE), NONE);
        x.terms(DAYS, 20);
        due("behind(19, 0) of 20", x.behind(19, 0), 0);
        due("behind(20, 0) of 20", x.behind(20, 0), NONE);
        x.terms(DAYS, 1);
        due("behind(0, NONE) of 1", x.behind(0, NONE), 0);
        due("behind(1, NONE) of 1", x.behind(1, NONE), NONE);
        due("behind(least, 0)", x.behind(LEAST, 0), NONE);
        due("behind(most, 0)", x.behind(MOST, 0), NONE);
        sentence("25. behind: LEVEL of a QUESTION (question NONE: how many hours). NONE");
        due("behind(0, -2)", x.behind(0, -2), NONE);
        due("behind(0, 1)", x.behind(0, 1), NONE);
        due("behind(0, least)", x.behind(0, LEAST), NONE);
        due("behind(0, most)", x.behind(0, MOST), NONE);
    }

    private static void lessonsBeyondTheDays() {
        sentence("DAYS 1 .. 20: a LESSON on a DAY beyond them is not learned");
        ExamSlips y = of(1);
        y.lesson(19, 0);
        due("learn() of 19 days", y.learn(), 0);
        due("judge(0)", y.judge(0), 0);
        y.terms(DAYS, 20);
        due("learn() of 20 days", y.learn(), 1);
        y.terms(HOURS, 3);
        due("judge(0)", y.judge(0), 1);
        due("judge(1)", y.judge(1), 19);
        y.terms(DAYS, 19);
        due("judge(0) of 19 days", y.judge(0), 0);
    }

    private static void learning() {
        sentence("27. learn: KNOWN become the LEVELS behind the last DAY");
        ExamSlips z = knowing(days(of(4), 2, 16), 0, 2, 2, 2);
        z.know(2, 2, 1);
        z.lesson(0, 0);
        z.lesson(1, 0);
        z.lesson(1, 2);
        due("learn()", z.learn(), 2);
        due("of(0, 2)", z.of(0, 2), 2);
        due("of(1, 2), which had no LESSON", z.of(1, 2), 0);
        due("of(2, 2), which is OUT", z.of(2, 2), 1);
        due("of(3, 2), which had no LESSON", z.of(3, 2), 0);
        due("count(5)", z.count(5), 2);
        z.terms(DAYS, 1);
        due("learn() of day 0", z.learn(), 1);
        due("of(0, 2)", z.of(0, 2), 1);
        due("count(3), the DIARY stays", z.count(3), 3);
        z.clear();
        due("learn() of an empty DIARY", z.learn(), 0);
        due("of(0, 2)", z.of(0, 2), 0);
    }

    private static void forgetting() {
        keptForDays();
        fallsAgain();
        keptToTheLastDay();
    }

    private static void keptForDays() {
        sentence("that had no LESSON for as many days as it keeps (today's: 0 days) has 1 less");
        ExamSlips x = by(of(1), "keeps 3");
        x.lesson(1, 0);
        dueDays(x, 0, 0, 1, 1, 1, 0, 0);
        due("judge(2)", x.judge(2), 1);
        ExamSlips one = by(of(1), "keeps 1");
        one.lesson(0, 0);
        dueDays(one, 0, 1, 0, 0);
        sentence("today's: 0 days: a LESSON begins the days again");
        one.lesson(1, 0);
        dueDays(one, 0, 1, 2, 1, 0, 0);
        due("judge(2)", one.judge(2), 2);
        ExamSlips again = by(of(1), "keeps 2;hours 2");
        again.lesson(0, 0);
        again.lesson(0, 0);
        again.lesson(2, 0);
        // day 2: AGAIN; day 4: 2 days
        dueDays(again, 0, 2, 2, 2, 2, 1, 1, 0);
        sentence("had no LESSON: one that was DROPPED is none");
        ExamSlips dropped = by(days(of(2), 9, 4), "keeps 2");
        dropped.lesson(0, 0);
        dropped.lesson(1, 1);
        dropped.lesson(1, 0);
        dueDays(dropped, 0, 1, 1, 0);
        dueDays(dropped, 1, 0, 1, 1, 0);
    }

    private static void fallsAgain() {
        sentence("has 1 less, and its days begin again");
        ExamSlips twice = by(of(1), "hours 1;keeps 2;keeps 3 if level=2");
        twice.lesson(0, 0);
        twice.lesson(0, 0);
        dueDays(twice, 0, 2, 2, 2, 1, 1, 0, 0);
        due("judge(2)", twice.judge(2), 2);
        ExamSlips slow = by(of(1), "hours 1;keeps 4;keeps 1 if level=2");
        slow.lesson(0, 0);
        slow.lesson(0, 0);
        dueDays(slow, 0, 2, 1, 1, 1, 1, 0);
        sentence("a QUESTION with a LEVEL above 0");
        ExamSlips never = by(of(2), "keeps 1");
        never.lesson(0, 1);
        dueDays(never, 0, 0, 0, 0);
        due("judge(2)", never.judge(2), 1);
    }

    private static void keptToTheLastDay() {
        sentence("keeps 1 .. 30 days, of 20 days: 19 and 20");
        ExamSlips last = by(days(of(1), 20, 6), "keeps 19");
        last.lesson(0, 0);
        due("behind(18, 0)", last.behind(18, 0), 1);
        due("behind(19, 0)", last.behind(19, 0), 0);
        by(last, "keeps 20");
        due("behind(19, 0)", last.behind(19, 0), 1);
        last.use(NONE);
        sentence("10 without");
        due("behind(9, 0)", last.behind(9, 0), 1);
        due("behind(10, 0)", last.behind(10, 0), 0);
        sentence("what \"keeps\" tells of it and the LEVEL it has, by QUESTION");
        ExamSlips each = by(days(of(3), 9, 16), "keeps question+1");
        for (int q = 0; q < 3; q++) {
            each.lesson(0, q);
        }
        dueDays(each, 0, 1, 0);
        dueDays(each, 1, 1, 1, 0);
        dueDays(each, 2, 1, 1, 1, 0);
        due("judge(2): how often a QUESTION fell by a LEVEL", each.judge(2), 3);
        each.terms(DAYS, 2);
        due("judge(2) of 2 days", each.judge(2), 1);
    }

    private static void backward() {
        laidFromTheLastDay();
        laidOverManyHours();
        orderOfLaying();
        leftOut();
        askingBackward();
    }

    private static void laidFromTheLastDay() {
        sentence("each on the DAY one is at, from the last one on; when there is not as much left of it");
        ExamSlips x = days(oneOf(2), 2, 8);
        // 16 hours: both well; 4 and 4 of 8
        dueLaid(x, 0, 1, 1);
        dueLaid(x, 1, 0, 0);
        due("backward(NONE, 1)", x.backward(NONE, 1), 0);
        due("backward(NONE, 2)", x.backward(NONE, 2), 0);
        x.terms(HOURS, 7);
        // 14 hours: 0 half, 1 well; one LESSON a DAY
        dueLaid(x, 0, NONE, NONE);
        dueLaid(x, 1, 0, 1);
        due("backward(NONE, 1)", x.backward(NONE, 1), 1);
        due("backward(NONE, 2)", x.backward(NONE, 2), 0);
        sentence("for all DAYS' HOURS together");
        days(x, 4, 4);
        dueLaid(x, 0, 2, 3);
        dueLaid(x, 1, 0, 1);
        days(x, 3, 5);
        // 15 hours: 0 half, 1 well
        dueLaid(x, 0, 0, NONE);
        dueLaid(x, 1, 1, 2);
        days(x, 20, 16);
        dueLaid(x, 0, 19, 19);
        dueLaid(x, 1, 19, 19);
        due("backward(NONE, 2)", x.backward(NONE, 2), 19);
    }

    private static void laidOverManyHours() {
        sentence("for all DAYS' HOURS together: 320 at most");
        ExamSlips all = by(days(oneOf(20), 20, 16), "hours 8");
        for (int q = 0; q < 20; q++) {
            dueLaid(all, q, 19 - q, 19 - q);
        }
        due("backward(NONE, 1)", all.backward(NONE, 1), 0);
        by(all, "hours 9");
        // 35 LESSONS are in 320 hours: 2 half, 3 .. 19 well; but one a day alone
        dueLaid(all, 3, 18, 19);
        dueLaid(all, 12, 0, 1);
        dueLaid(all, 13, NONE, NONE);
        dueLaid(all, 2, NONE, NONE);
        due("backward(NONE, 1)", all.backward(NONE, 1), 15);
        sentence("BACKWARD: what a LESSON takes, day 0");
        dueLaid(by(days(oneOf(1), 1, 6), "hours 3+day"), 0, 0, 0);
        dueLaid(by(days(oneOf(1), 2, 3), "hours 3+day"), 0, 0, 1);
    }

    private static void orderOfLaying() {
        sentence("those with LEVEL 2, then those with 1, by numbers, the last one first");
        ExamSlips y = by(days(oneOf(4), 3, 2), "hours 1;hours 3 if question=3 and level=2;hours 3 if question=1 and level=2");
        // 6 hours: 0 and 2 well, 1 and 3 half
        dueLevels(y, 6, 2, 1, 2, 1);
        dueLaid(y, 0, 2, 2);
        dueLaid(y, 2, 1, 1);
        dueLaid(y, 1, 0, NONE);
        dueLaid(y, 3, 0, NONE);
        due("backward(NONE, 1)", y.backward(NONE, 1), 0);
        days(y, 6, 1);
        dueLaid(y, 0, 4, 5);
        dueLaid(y, 2, 2, 3);
        dueLaid(y, 1, 1, NONE);
        dueLaid(y, 3, 0, NONE);
        sentence("one goes to the DAY ahead, as often as needed: never back");
        ExamSlips z = by(days(oneOf(2), 3, 5), "hours 4;hours 1 if question=1");
        // 15 hours: both well; 4 on day 2, 4 on day 1, 1 and 0 left: then 1, and 1 on day 0
        dueLaid(z, 0, 1, 2);
        dueLaid(z, 1, 0, 1);
    }

    private static void leftOut() {
        sentence("one that fits on none is LEFT OUT, and all behind it");
        ExamSlips w = by(days(oneOf(3), 3, 5), "hours 2;hours 6 if question=0;hours 20 if question=2 and level=2");
        dueLevels(w, 15, 1, 2, 1);
        dueLaid(w, 1, 2, 2);
        dueLaid(w, 0, NONE, NONE);
        dueLaid(w, 2, NONE, NONE);
        due("backward(NONE, 1)", w.backward(NONE, 1), 2);
        due("backward(NONE, 2)", w.backward(NONE, 2), 2);
        sentence("28. backward: the first DAY with a LESSON (2; NONE)");
        days(w, 1, 0);
        due("backward(NONE, 2) without hours", w.backward(NONE, 2), NONE);
        due("backward(NONE, 1) without hours", w.backward(NONE, 1), 0);
        ExamSlips v = days(oneOf(1), 4, 3);
        // 12 hours, but no day has 4
        due("backward(NONE, 2), all LEFT OUT", v.backward(NONE, 2), NONE);
        due("backward(NONE, 1), all LEFT OUT", v.backward(NONE, 1), 2);
        due("backward(0, 2)", v.backward(0, 2), NONE);
        due("backward(0, 1)", v.backward(0, 1), NONE);
        sentence("BACKWARD: helped as in the SCHEME");
        ExamSlips u = days(kings("hours 8-helped*6", 3, 3), 2, 10);
        // 20 hours: both well, 8 and 8, 2 and 2
        dueLaid(u, 0, 0, 1);
        dueLaid(u, 1, NONE, 0);
        due("backward(NONE, 1)", u.backward(NONE, 1), 1);
    }

    private static void askingBackward() {
        sentence("28. backward: of a QUESTION to a LEVEL 1, 2 (NONE: LEFT OUT, or there is none). NONE");
        ExamSlips x = days(oneOf(2), 19, 6);
        due("backward(0, 0)", x.backward(0, 0), NONE);
        due("backward(0, 3)", x.backward(0, 3), NONE);
        due("backward(NONE, 0)", x.backward(NONE, 0), NONE);
        due("backward(NONE, 3)", x.backward(NONE, 3), NONE);
        due("backward(2, 1)", x.backward(2, 1), NONE);
        due("backward(-2, 1)", x.backward(-2, 1), NONE);
        due("backward(most, 1)", x.backward(MOST, 1), NONE);
        due("backward(0, most)", x.backward(0, MOST), NONE);
        due("backward(0, 1)", x.backward(0, 1), 17);
        x.know(0, 2, 1);
        due("backward(0, 1) of one that is OUT", x.backward(0, 1), NONE);
        due("backward(1, 2)", x.backward(1, 2), 18);
    }

    private static void dueLaid(ExamSlips x, int question, int toHalf, int toWell) {
        due("backward(" + question + ", 1)", x.backward(question, 1), toHalf);
        due("backward(" + question + ", 2)", x.backward(question, 2), toWell);
    }

    private static void dueShare(ExamSlips x, int together, int... who) {
        due("share(NONE)", x.share(NONE), together);
        for (int q = 0; q < who.length; q++) {
            due("share(" + q + ")", x.share(q), who[q]);
        }
    }

    private static ExamSlips friendsOf(ExamSlips x, int... hours) {
        for (int friend = 0; friend < hours.length; friend++) {
            x.friend(friend, hours[friend]);
        }
        return x;
    }

    private static void friends() {
        hoursOfFriends();
        eachLearnsSomeWell();
        asManyAsCanBe();
        noneAndAll();
        shareIsAsThingsAre();
    }

    private static void hoursOfFriends() {
        sentence("29. friend: FRIENDS 0 .. 2. -1");
        ExamSlips x = of(2);
        due("friend(-1, 0)", x.friend(-1, 0), -1);
        due("friend(3, 0)", x.friend(3, 0), -1);
        due("friend(most, 0)", x.friend(MOST, 0), -1);
        due("friend(2, 5)", x.friend(2, 5), 0);
        due("friend(2, 6)", x.friend(2, 6), 5);
        sentence("29. friend: HOURS 0 .. 99 each. -1: what they were");
        due("friend(0, -1)", x.friend(0, -1), -1);
        due("friend(0, 100)", x.friend(0, 100), -1);
        due("friend(0, least)", x.friend(0, LEAST), -1);
        due("friend(0, most)", x.friend(0, MOST), -1);
        due("friend(0, 99)", x.friend(0, 99), 0);
        due("friend(0, 0)", x.friend(0, 0), 99);
        due("friend(0, 0)", x.friend(0, 0), 0);
    }

    private static void eachLearnsSomeWell() {
        sentence("each learns some well (LESSONS from LEVEL 0, helped never)");
        dueShare(friendsOf(of(2), 8), 1, 0, NONE);
        dueShare(friendsOf(of(2), 7), 0, NONE, NONE);
        dueShare(friendsOf(of(2), 16), 2, 0, 0);
        dueShare(friendsOf(of(2), 15), 1, 0, NONE);
        dueShare(friendsOf(kings("hours 9-helped*8", 1, 1), 36), 2, 0, 0);
        dueShare(friendsOf(kings("hours 9-helped*8", 1, 1), 35), 1, 0, NONE);
        dueShare(friendsOf(by(of(1), "hours 3;hours 5 if level=2"), 8), 1, 0);
        dueShare(friendsOf(by(of(1), "hours 3;hours 5 if level=2"), 7), 0, NONE);
        dueShare(friendsOf(by(of(1), "hours 5;hours 3 if level=1"), 8), 1, 0);
        dueShare(friendsOf(by(of(1), "hours 5;hours 3 if level=1"), 7), 0, NONE);
        dueShare(friendsOf(by(of(1), "hours 3+day*9"), 6), 1, 0);
        dueShare(friendsOf(knowing(of(1), 2), 7), 0, NONE);
    }

    private static void asManyAsCanBe() {
        sentence("no QUESTION twice, as many together as can be");
        dueShare(friendsOf(of(2), 8, 8, 8), 2, 0, 1);
        // 6, 10 and 4 hours: a good row must leave 10 together
        ExamSlips y = by(of(3), "hours 3;hours 5 if question=1;hours 2 if question=2");
        dueShare(friendsOf(y, 10, 10), 3, 0, 1, 0);
        dueShare(friendsOf(y, 10, 9), 2, 0, NONE, 0);
        dueShare(friendsOf(y, 9, 11), 2, 0, 1, NONE);
        dueShare(friendsOf(y, 9, 4, 6), 2, 0, NONE, 1);
        dueShare(friendsOf(y, 4, 0, 0), 1, NONE, NONE, 0);
        dueShare(friendsOf(y, 3, 3, 3), 0, NONE, NONE, NONE);
        dueShare(friendsOf(by(of(2), "hours 5-question*3"), 4), 1, NONE, 0);
        dueShare(friendsOf(by(of(2), "hours 5-question*3"), 3), 0, NONE, NONE);
        dueShare(friendsOf(by(of(4), "hours 9-question*2"), 6, 10), 2, NONE, NONE, 1, 0);
        dueShare(friendsOf(by(of(3), "hours 3;hours 7 if question=1;hours 5 if question=2"), 16), 2, 0, NONE, 0);
        dueShare(friendsOf(by(of(3), "hours 3;hours 7 if question=1;hours 5 if question=2"), 6), 1, 0, NONE, NONE);
        // 4, 2, 6 and 10 by 10 and 12: 4 and 6, 2 and 10
        dueShare(friendsOf(by(of(4), "hours 2;hours 1 if question=1;hours 3 if question=2;hours 5 if question=3"), 10, 12),
                4, 0, 1, 0, 1);
        sentence("as many together as can be: packed without a gap");
        ExamSlips six = by(of(6), "hours 3;hours 2 if question>2");
        dueShare(friendsOf(six, 10, 10, 10), 6, 0, 1, 2, 0, 1, 2);
        dueShare(friendsOf(six, 10, 10, 9), 5, 0, 1, 2, 0, 1, NONE);
        sentence("the FIRST: as a row by QUESTIONS of FRIENDS, lower ones ahead, none behind all");
        dueShare(friendsOf(of(3), 8, 8), 2, 0, 1, NONE);
        dueShare(friendsOf(of(3), 0, 8, 8), 2, 1, 2, NONE);
        dueShare(friendsOf(of(3), 0, 0, 16), 2, 2, 2, NONE);
        dueShare(friendsOf(of(3), 7, 16, 8), 3, 1, 1, 2);
        dueShare(friendsOf(of(3), 16, 0, 8), 3, 0, 0, 2);
        dueShare(friendsOf(y, 6, 10, 0), 2, 0, 1, NONE);
        // 0 could go to 0, but then 1 finds no room: 10 for 1, 6 and 4 are left
        dueShare(friendsOf(y, 10, 6, 4), 3, 1, 0, 2);
    }

    private static void noneAndAll() {
        sentence("HOURS 0 .. 99: none of them, all of them");
        dueShare(of(3), 0, NONE, NONE, NONE);
        dueShare(friendsOf(by(of(12), "hours 20"), 99, 99, 99), 6, 0, 0, 1, 1, 2, 2,
                NONE, NONE, NONE, NONE, NONE, NONE);
        dueShare(friendsOf(by(of(12), "hours 1"), 24), 12, 0, 0, 0, 0, 0, 0, 0, 0, 0, 0, 0, 0);
        dueShare(friendsOf(by(of(12), "hours 1"), 23), 11, 0, 0, 0, 0, 0, 0, 0, 0, 0, 0, 0, NONE);
        sentence("They SHARE the first 12 QUESTIONS");
        dueShare(friendsOf(of(13), 96, 8), 12, 0, 0, 0, 0, 0, 0, 0, 0, 0, 0, 0, 0, NONE);
        dueShare(friendsOf(of(13), 95, 8), 12, 0, 0, 0, 0, 0, 0, 0, 0, 0, 0, 0, 1, NONE);
        dueShare(friendsOf(of(11), 95, 8), 11, 0, 0, 0, 0, 0, 0, 0, 0, 0, 0, 0, NONE);
        ExamSlips out = friendsOf(of(13), 96);
        out.know(0, 2, 1);
        dueShare(out, 12, 0, 0, 0, 0, 0, 0, 0, 0, 0, 0, 0, 0, NONE);
        sentence("30. share: NONE (nobody, too)");
        due("share(13)", out.share(13), NONE);
        due("share(-2)", out.share(-2), NONE);
        due("share(least)", out.share(LEAST), NONE);
        due("share(most)", out.share(MOST), NONE);
    }

    private static void shareIsAsThingsAre() {
        sentence("SHARE is as things are now");
        ExamSlips now = friendsOf(of(2), 8);
        dueShare(now, 1, 0, NONE);
        now.friend(1, 8);
        dueShare(now, 2, 0, 1);
        by(now, "hours 3");
        dueShare(now, 2, 0, 1);
        now.friend(0, 12);
        dueShare(now, 2, 0, 0);
        now.question(0, 1);
        dueShare(now, 3, 0, 0, 1);
        friendsOf(now, 0, 0);
        dueShare(now, 0, NONE, NONE, NONE);
    }

    private static void ill() {
        daysAndHoursIll();
        bestOfDaysLeft();
    }

    private static void daysAndHoursIll() {
        sentence("ILL: of so many days (0 .. 3)");
        ExamSlips x = oneOf(2);
        due("ill(-1, 8)", x.ill(-1, 8), NONE);
        due("ill(4, 8)", x.ill(4, 8), NONE);
        due("ill(least, 8)", x.ill(LEAST, 8), NONE);
        due("ill(most, 8)", x.ill(MOST, 8), NONE);
        due("ill(0, 8)", x.ill(0, 8), 0);
        // by ILL of 10: 9/10 of 8 hours; 81/100 of 16, 18/100 of 8
        due("ill(1, 8)", x.ill(1, 8), 450_000);
        due("ill(2, 8)", x.ill(2, 8), 900_000);
        // 729 and 243 of a thousand have 16 hours, 27 have 8
        due("ill(3, 8)", x.ill(3, 8), 985_500);
        sentence("ILL: with as many hours (0 .. 100) each");
        due("ill(3, -1)", x.ill(3, -1), NONE);
        due("ill(3, 101)", x.ill(3, 101), NONE);
        due("ill(3, most)", x.ill(3, MOST), NONE);
        due("ill(3, 0)", x.ill(3, 0), 0);
        due("ill(1, 100)", x.ill(1, 100), 900_000);
        due("ill(3, 100)", x.ill(3, 100), 999_000);
        due("ill(1, 4)", x.ill(1, 4), 225_000);
        due("ill(1, 3)", x.ill(1, 3), 0);
        sentence("ILL: lost by ILL of a hundred: 0 .. 100");
        x.terms(ILL, 0);
        due("ill(2, 8) by 0", x.ill(2, 8), 1_000_000);
        due("ill(0, 8) by 0", x.ill(0, 8), 0);
        x.terms(ILL, 100);
        due("ill(3, 100) by 100", x.ill(3, 100), 0);
        x.terms(ILL, 99);
        due("ill(1, 100) by 99", x.ill(1, 100), 10_000);
        x.terms(ILL, 1);
        due("ill(1, 100) by 1", x.ill(1, 100), 990_000);
    }

    private static void bestOfDaysLeft() {
        sentence("ILL: BEST for the hours of those that are left, all together");
        ExamSlips y = by(oneOf(1), "hours 20;chance 10*level;chance 90 if level=2");
        y.terms(ILL, 50);
        // 3 days of 14: 42 (well), 28 (half, three times), 14, 0: 1/8 of 90 and 3/8 of 10
        due("ill(3, 14)", y.ill(3, 14), 150_000);
        due("ill(3, 20), 40 are two days", y.ill(3, 20), 487_500);
        due("ill(3, 19), 38 are not enough", y.ill(3, 19), 150_000);
        due("ill(3, 13)", y.ill(3, 13), 50_000);
        sentence("ILL: ODDS to PASS without any LESSON count, too");
        ExamSlips z = by(oneOf(1), "chance 20");
        due("ill(0, 0)", z.ill(0, 0), 200_000);
        due("ill(3, 50)", z.ill(3, 50), 200_000);
        sentence("ILL: in millionths, cut");
        ExamSlips w = oneOf(3);
        w.terms(ILL, 0);
        due("ill(1, 8)", w.ill(1, 8), 333_333);
        due("ill(2, 8)", w.ill(2, 8), 666_666);
        w.terms(ILL, 50);
        // a quarter of 2/3 and a half of 1/3
        due("ill(2, 8)", w.ill(2, 8), 333_333);
        w.terms(ILL, 1);
        // 9801 of 2/3 and 198 of 1/3 of ten thousand: 19800 of 30000
        due("ill(2, 8)", w.ill(2, 8), 660_000);
    }

    // Terms V: years, exams, images

    private static void years() {
        fortyYears();
        drawnInYears();
    }

    private static void fortyYears() {
        sentence("YEARS, 40 at most");
        ExamSlips x = of(2);
        for (int i = 1; i <= 40; i++) {
            due("year(1)", x.year(1), i);
        }
        due("year(1) for the 41st", x.year(1), -5);
        due("count(4)", x.count(4), 40);
        due("drawn(0, 0)", x.drawn(0, 0), 40);
        sentence("32. year: -1 (a QUESTION that is not there, too)");
        ExamSlips y = of(2);
        due("year(4)", y.year(4), -1);
        due("year(7)", y.year(7), -1);
        due("year(-1)", y.year(-1), -1);
        due("year(least)", y.year(LEAST), -1);
        due("year(most)", y.year(MOST), -1);
        due("year(1 << 20)", y.year(1 << 20), -1);
        due("year(3)", y.year(3), 1);
        due("year(0)", y.year(0), 2);
        y.know(1, 2, 1);
        due("year(2) of one that is OUT", y.year(2), 3);
        ExamSlips all = of(20);
        due("year of all 20", all.year((1 << 20) - 1), 1);
        due("year of a 21st", all.year(1 << 20), -1);
        due("year of the 20th", all.year(1 << 19), 2);
        due("drawn(19, 0)", all.drawn(19, 0), 2);
        due("drawn(18, 0)", all.drawn(18, 0), 1);
    }

    private static void drawnInYears() {
        sentence("35. drawn: how many YEARS ago it was latest (1; 0 in the latest YEAR; NONE never). NONE");
        ExamSlips z = of(3);
        due("drawn(0, 0) without YEARS", z.drawn(0, 0), 0);
        due("drawn(0, 1) without YEARS", z.drawn(0, 1), NONE);
        z.year(1);
        due("drawn(0, 1) in the latest YEAR", z.drawn(0, 1), 0);
        due("drawn(1, 1) never", z.drawn(1, 1), NONE);
        z.year(2);
        due("drawn(0, 1)", z.drawn(0, 1), 1);
        due("drawn(1, 1)", z.drawn(1, 1), 0);
        z.year(1);
        due("drawn(0, 1), the latest of two", z.drawn(0, 1), 0);
        due("drawn(0, 0)", z.drawn(0, 0), 2);
        for (int i = 3; i < 40; i++) {
            z.year(4);
        }
        due("drawn(1, 1) of 40 YEARS", z.drawn(1, 1), 38);
        due("drawn(2, 0) of 40 YEARS", z.drawn(2, 0), 37);
        due("drawn(0, -1)", z.drawn(0, -1), NONE);
        due("drawn(0, 2)", z.drawn(0, 2), NONE);
        due("drawn(-1, 0)", z.drawn(-1, 0), NONE);
        due("drawn(3, 0)", z.drawn(3, 0), NONE);
        due("drawn(3, 1)", z.drawn(3, 1), NONE);
        due("drawn(32, 0)", z.drawn(32, 0), NONE);
        due("drawn(most, 0)", z.drawn(MOST, 0), NONE);
    }

    private static void seldom() {
        seldomByYears();
        seldomOfForty();
        manyLooks();
    }

    private static void seldomByYears() {
        sentence("SELDOM: in as many YEARS as there are: none");
        ExamSlips x = set(of(3), 2, 1, 1);
        due("seldom(0)", x.seldom(0), 1_000_000);
        due("seldom(NONE)", x.seldom(NONE), 1_000_000);
        sentence("SELDOM: no more often than it was");
        x.year(6);
        due("seldom(0), not of one", x.seldom(0), 333_333);
        due("seldom(1), one of one", x.seldom(1), 1_000_000);
        x.year(6);
        // 1/9; 1 less 4/9
        due("seldom(0), not of two", x.seldom(0), 111_111);
        x.year(1);
        // 1/27 and 6/27; 1 less 8/27
        due("seldom(0), one of three", x.seldom(0), 259_259);
        due("seldom(1), two of three", x.seldom(1), 703_703);
        sentence("SELDOM: (1,000,000 if LIE is not less than these)");
        x.terms(LIE, 3);
        due("seldom(0), LIE 3 of 3", x.seldom(0), 1_000_000);
        x.terms(LIE, 4);
        due("seldom(0), LIE 4 of 3", x.seldom(0), 1_000_000);
        due("seldom(NONE), LIE 4 of 3", x.seldom(NONE), 1_000_000);
        x.terms(LIE, 1);
        // LIE 1 of 3: 8/27 and 12/27
        due("seldom(0), LIE 1 of 3", x.seldom(0), 740_740);
        sentence("SELDOM: LIE of all QUESTIONS there are, OUT or not");
        x.know(0, 2, 1);
        x.know(1, 2, 1);
        due("seldom(0), though two are OUT", x.seldom(0), 740_740);
        sentence("SELDOM: LIE 10 of 11, of 20");
        ExamSlips y = set(of(11), 10, 1, 1);
        y.year(0);
        due("seldom(0), a 11th", y.seldom(0), 90_909);
        due("seldom(10)", y.seldom(10), 90_909);
    }

    private static void seldomOfForty() {
        sentence("SELDOM: of 40 YEARS, in millionths, cut");
        ExamSlips z = set(of(20), 10, 1, 1);
        for (int i = 0; i < 40; i++) {
            z.year(1 | (i < 39 ? 2 : 0) | (i < 20 ? 4 : 0) | (i < 19 ? 8 : 0));
        }
        due("seldom(0), 40 of 40", z.seldom(0), 1_000_000);
        // 1 less a half to the 40th
        due("seldom(1), 39 of 40", z.seldom(1), 999_999);
        // a half, and half of C(40, 20) by 2 to the 40th, above it or below
        due("seldom(2), 20 of 40", z.seldom(2), 562_685);
        due("seldom(3), 19 of 40", z.seldom(3), 437_314);
        due("seldom(4), none of 40", z.seldom(4), 0);
        z.terms(LIE, 1);
        // 19/20 to the 40th
        due("seldom(4), LIE 1", z.seldom(4), 128_512);
        due("seldom(1), LIE 1", z.seldom(1), 999_999);
        due("seldom(0), LIE 1", z.seldom(0), 1_000_000);
    }

    private static void manyLooks() {
        sentence("With many looks counted in: the least of all QUESTIONS times as many as there are");
        ExamSlips w = oneOf(2);
        w.year(1);
        w.year(1);
        due("seldom(1), not of two", w.seldom(1), 250_000);
        due("seldom(NONE), the last is the least", w.seldom(NONE), 500_000);
        ExamSlips v = oneOf(2);
        v.year(2);
        v.year(2);
        due("seldom(NONE), the first is the least", v.seldom(NONE), 500_000);
        ExamSlips x = set(of(3), 2, 1, 1);
        x.year(6);
        x.year(6);
        x.year(1);
        due("seldom(NONE), cut ahead of times 3", x.seldom(NONE), 3 * 259_259);
        sentence("With many looks counted in: 1,000,000 at most");
        ExamSlips u = oneOf(2);
        u.year(1);
        due("seldom(NONE), twice a half", u.seldom(NONE), 1_000_000);
        u.question(0, 1);
        due("seldom(NONE), thrice two thirds", u.seldom(NONE), 1_000_000);
        ExamSlips z = oneOf(20);
        z.year(0);
        due("seldom(NONE), 20 times 950,000", z.seldom(NONE), 1_000_000);
        sentence("36. seldom: (question NONE; NONE without QUESTIONS). NONE");
        due("seldom(NONE) without QUESTIONS", new ExamSlips().seldom(NONE), NONE);
        due("seldom(0) without QUESTIONS", new ExamSlips().seldom(0), NONE);
        due("seldom(-2)", x.seldom(-2), NONE);
        due("seldom(3)", x.seldom(3), NONE);
        due("seldom(least)", x.seldom(LEAST), NONE);
        due("seldom(most)", x.seldom(MOST), NONE);
    }

    private static void rows() {
        intsOfTheTape();
        notThere();
        noRoomForYears();
        lostOfTheLatest();
    }

    private static void intsOfTheTape() {
        sentence("33. row: -6 the TAPE is empty");
        ExamSlips x = of(3);
        due("row()", x.row(), -6);
        due("count(11)", x.count(11), 1);
        due("count(4)", x.count(4), 0);
        sentence("A ROW of YEARS: the TAPE's ints, four bytes each (the highest first), as bits");
        x.feed(1, 2, 4, 7, 0);
        due("row()", x.row(), 5);
        due("drawn(0, 0)", x.drawn(0, 0), 2);
        due("drawn(0, 1)", x.drawn(0, 1), 1);
        due("drawn(1, 0)", x.drawn(1, 0), 2);
        due("drawn(2, 0)", x.drawn(2, 0), 2);
        due("lost()", x.lost(), 0);
        ExamSlips all = of(20);
        all.feed(0x000a0b0c, 0x000fffff, 0, 0, 0);
        all.end(8);
        due("row() of high bytes", all.row(), 2);
        due("drawn(19, 1): bit 19 of 0a0b0c", all.drawn(19, 0), 2);
        due("drawn(18, 0)", all.drawn(18, 0), 1);
        due("drawn(11, 0)", all.drawn(11, 0), 2);
        due("drawn(2, 0)", all.drawn(2, 0), 2);
        due("drawn(0, 0)", all.drawn(0, 0), 1);
        due("count(6): 33. the TAPE is empty then", all.count(6), 0);
        due("row()", all.row(), -6);
    }

    private static void notThere() {
        sentence("one with a QUESTION that is not there .. is LOST: none");
        ExamSlips y = of(3);
        y.feed(8, 7, -1, LEAST, MOST);
        due("row()", y.row(), 1);
        due("lost()", y.lost(), 4);
        due("count(4)", y.count(4), 1);
        sentence("within which the TAPE ends is LOST: none");
        for (int bytes = 1; bytes <= 12; bytes++) {
            ExamSlips z = of(3);
            z.feed(1, 1, 1, 1, 1);
            z.end(bytes);
            due("row() of " + bytes, z.row(), bytes / 4);
            due("lost() of " + bytes, z.lost(), bytes % 4 == 0 ? 0 : 1);
            due("count(4) of " + bytes, z.count(4), bytes / 4);
            due("count(6) of " + bytes, z.count(6), 0);
        }
    }

    private static void noRoomForYears() {
        sentence("one for which there is no room .. is LOST: none");
        ExamSlips full = of(20);
        for (int i = 0; i < 38; i++) {
            full.year(1);
        }
        full.feed(2, 2, 2, 2, 2);
        due("row() with room for 2", full.row(), 2);
        due("lost()", full.lost(), 3);
        due("count(4)", full.count(4), 40);
        full.feed(2, 2, 2, 2, 2);
        due("row() without room", full.row(), 0);
        due("lost()", full.lost(), 5);
        due("status()", full.status(), 0);
        due("drawn(1, 0)", full.drawn(1, 0), 2);
    }

    private static void lostOfTheLatest() {
        sentence("34. lost: in the latest row() that was not REFUSED");
        ExamSlips hundred = of(3);
        for (int i = 0; i < 20; i++) {
            hundred.feed(1, 2, 4, 3, 5);
        }
        due("row() of 400 bytes", hundred.row(), 40);
        due("lost()", hundred.lost(), 60);
        due("row()", hundred.row(), -6);
        due("lost() behind a REFUSED one", hundred.lost(), 60);
        hundred.feed(1, 1, 1, 1, 1);
        hundred.end(4);
        hundred.row();
        due("lost()", hundred.lost(), 1);
        ExamSlips y = of(1);
        y.feed(1, 2, 1, 1, 1);
        y.row();
        due("lost()", y.lost(), 1);
        y.feed(1, 1, 1, 1, 1);
        y.row();
        due("lost(), none this time", y.lost(), 0);
    }

    /*
     * From a SEED of 0 on s is 12345, 628841, 621889, 953857, 113460, 158350, 671873, 86041;
     * modulo 100 that is 45, 41, 89, 57, 60, 50, 73, 41.
     */
    private static void exams() {
        seeds();
        tables();
        leaningByDraws();
        answersByDraws();
    }

    private static void seeds() {
        sentence("s is a SEED (0 .. 1,000,000)");
        ExamSlips x = by(knowing(oneOf(1), 1), "chance 37");
        due("exam(-1)", x.exam(-1), -1);
        due("exam(1000001)", x.exam(1_000_001), -1);
        due("exam(least)", x.exam(LEAST), -1);
        due("exam(most)", x.exam(MOST), -1);
        due("table(0), none was held", x.table(0), NONE);
        due("exam(0): 45", x.exam(0), 0);
        // 9036: 36
        due("exam(1000000)", x.exam(1_000_000), 1);
        by(x, "chance 36");
        due("exam(1000000)", x.exam(1_000_000), 0);
        sentence("s becomes (s times 1103 and 12345) modulo 1,000,003, it is s modulo n");
        by(x, "chance 1");
        // s becomes 0, the least, and 1,000,002, the most
        due("exam(870345): 0", x.exam(870_345), 1);
        by(x, "chance 3 if level=1");
        due("exam(327279): 2", x.exam(327_279), 1);
        by(x, "chance 2");
        due("exam(327279): 2", x.exam(327_279), 0);
        sentence("RIGHT below its CHANCE: 0 .. 100, DRAWS 0 and 99");
        ExamSlips y = by(knowing(oneOf(1), 1), "chance 0");
        due("exam(870345): 0 is not below 0", y.exam(870_345), 0);
        by(y, "chance 100");
        // s becomes 99
        due("exam(633717): 99 is below 100", y.exam(633_717), 1);
        by(y, "chance 99");
        due("exam(633717): 99 is not below 99", y.exam(633_717), 0);
        by(y, "chance 45");
        due("exam(0): 45 is not below 45", y.exam(0), 0);
        by(y, "chance 46");
        due("exam(0): 45 is below 46", y.exam(0), 1);
        sentence("37. exam -1: the latest one stays");
        due("exam(-1)", y.exam(-1), -1);
        due("table(2)", y.table(2), 1);
        sentence("38. table: what lay (0), what was answered (1), what was RIGHT (2). NONE");
        due("table(-1)", y.table(-1), NONE);
        due("table(3)", y.table(3), NONE);
        due("table(least)", y.table(LEAST), NONE);
        due("table(most)", y.table(MOST), NONE);
    }

    private static void tables() {
        sentence("for each that is still to come a DRAW of those left, by numbers");
        ExamSlips x = set(of(4), 2, 3, 2);
        // 1 of 0, 1, 2, 3; 2 of 0, 2, 3; then 89 and 57
        dueTable(x, 0, 10, 10, 0);
        knowing(x, 2, 2, 2, 2);
        dueTable(x, 0, 10, 10, 10);
        x.terms(LIE, 1);
        dueTable(x, 0, 2, 2, 2);
        x.terms(LIE, 3);
        // 1; 2 of 0, 2, 3; 1 of 0, 2
        dueTable(x, 0, 14, 14, 14);
        sentence("for each that is still to come a DRAW of those left: not of those that are OUT");
        x.know(0, 2, 1);
        x.terms(LIE, 2);
        // 0 of 1, 2, 3; 1 of 2, 3
        dueTable(x, 0, 10, 10, 10);
        x.terms(LIE, 1);
        dueTable(x, 0, 2, 2, 2);
        sentence("(without DRAWS all lie there, if there are no more than LIE)");
        ExamSlips two = knowing(set(of(2), 2, 3, 2), 1, 1);
        // 45 and 41 are both below 50
        dueTable(two, 0, 3, 3, 3);
        two.terms(LIE, 3);
        dueTable(two, 0, 3, 3, 3);
        two.terms(LIE, 1);
        // 1 of 0, 1; then 41
        dueTable(two, 0, 2, 2, 2);
        two.terms(LIE, 10);
        dueTable(two, 0, 3, 3, 3);
        two.know(0, 2, 1);
        dueTable(two, 0, 2, 2, 2);
        sentence("LIE 10 of 20, by DRAWS");
        ExamSlips all = set(of(20), 10, 3, 2);
        // 5 of 20, then 17, 7, 4, 4, 10, 13, 7, 10, 9 of those left: 5 18 8 4 6 14 19 11 16 15
        dueTable(all, 0, 903_536, 16 + 32 + 64, 0);
        for (int q = 0; q < 20; q++) {
            all.know(q, 0, 2);
        }
        dueTable(all, 0, 903_536, 16 + 32 + 64, 16 + 32 + 64);
    }

    private static void leaningByDraws() {
        whetherItLeans();
        belowLean();
        leastAndMostLean();
    }

    private static void whetherItLeans() {
        sentence("If the lot leans at all (LIKED ones, LIE less than all): a DRAW of 100");
        ExamSlips x = set(of(4), 2, 3, 2);
        x.know(0, 1, 1);
        // 45; then 1 of 4 and 1 of 0, 2, 3
        dueTable(x, 0, 6, 6, 0);
        x.know(0, 1, 0);
        // no LIKED ones: 1 of 4 and 2 of 0, 2, 3
        dueTable(x, 0, 10, 10, 0);
        sentence("If the lot leans at all: LIKED ones that are OUT are none of the BOWL");
        ExamSlips out = set(of(5), 2, 3, 2);
        out.know(4, 1, 1);
        out.know(4, 2, 1);
        out.terms(LEAN, 100);
        dueTable(out, 0, 10, 10, 0);
        sentence("If the lot leans at all: LIE less than all");
        ExamSlips all = knowing(set(of(2), 2, 3, 2), 1, 1);
        all.know(0, 1, 1);
        all.terms(LEAN, 100);
        dueTable(all, 0, 3, 3, 3);
        all.question(0, 1);
        // 0 of one LIKED, 1 of 1, 2, behind a DRAW of 100; then 57 for 0
        dueTable(all, 0, 5, 5, 0);
    }

    private static void belowLean() {
        sentence("below LEAN a DRAW of the LIKED ones tells the first (by numbers)");
        ExamSlips x = set(of(4), 2, 3, 2);
        x.know(0, 1, 1);
        x.terms(LEAN, 45);
        dueTable(x, 0, 6, 6, 0);
        x.terms(LEAN, 46);
        // 0; then 1 of 1, 2, 3
        dueTable(x, 0, 5, 5, 0);
        x.terms(LEAN, 100);
        dueTable(x, 0, 5, 5, 0);
        x.know(0, 1, 0);
        x.know(2, 1, 1);
        x.know(3, 1, 1);
        // 1 of 2, 3; then 1 of 0, 1, 2
        dueTable(x, 0, 10, 10, 0);
        x.know(1, 1, 1);
        // 628,841 modulo 3 is 2 of 1, 2, 3; then 1 of 0, 1, 2
        dueTable(x, 0, 10, 10, 0);
        x.terms(LIE, 1);
        dueTable(x, 0, 8, 8, 0);
    }

    private static void leastAndMostLean() {
        sentence("LEAN 0: none is below it, not even a DRAW of 0");
        ExamSlips none = knowing(set(of(2), 1, 1, 1), 2);
        none.know(0, 1, 1);
        // s is 0 and 12345: 1 of 0, 1
        dueTable(none, 870_345, 2, 2, 0);
        none.terms(LEAN, 1);
        // 0 is below 1: 0 of one LIKED
        dueTable(none, 870_345, 1, 1, 1);
        sentence("LEAN 100: all are below it, even a DRAW of 99");
        none.terms(LEAN, 100);
        // s is 99 and 121542: 0 of one LIKED
        dueTable(none, 633_717, 1, 1, 1);
        none.terms(LEAN, 99);
        // 121,542 modulo 2
        dueTable(none, 633_717, 1, 1, 1);
        none.know(0, 1, 0);
        none.know(1, 1, 1);
        dueTable(none, 633_717, 1, 1, 1);
        none.terms(LEAN, 100);
        dueTable(none, 633_717, 2, 2, 0);
    }

    private static void answersByDraws() {
        sentence("for each answered one (those with the greatest CHANCE first, of alike ones the lowest)");
        ExamSlips x = knowing(set(of(3), 8, 3, 2), 1, 2, 1);
        // 1: 45 of 100; 0: 41 of 50; 2: 89 of 50
        dueTable(x, 0, 7, 7, 3);
        x.terms(ANSWERS, 2);
        dueTable(x, 0, 7, 3, 3);
        x.terms(ANSWERS, 1);
        dueTable(x, 0, 7, 2, 2);
        sentence("the greatest CHANCE, not the greatest LEVEL");
        by(x, "chance 90-level*40");
        // 0: 45 of 50
        dueTable(x, 0, 7, 1, 1);
        x.terms(ANSWERS, 3);
        // 0: 45 of 50; 2: 41 of 50; 1: 89 of 10
        dueTable(x, 0, 7, 7, 5);
        sentence("of alike ones the lowest, whatever their LEVELS");
        by(x, "chance 44");
        // 0: 45; 1: 41; 2: 89
        dueTable(x, 0, 7, 7, 2);
        sentence("the greatest CHANCE: that of LEVEL 0, too");
        ExamSlips zero = by(knowing(set(of(2), 8, 1, 1), 1, 0), "chance 20;chance 46 if level=0");
        dueTable(zero, 0, 3, 2, 2);
        sentence("answered: all, if there are fewer");
        ExamSlips two = knowing(set(of(2), 8, 3, 3), 2, 2);
        dueTable(two, 0, 3, 3, 3);
        two.know(0, 2, 1);
        dueTable(two, 0, 2, 2, 2);
        sentence("38. table: of the latest EXAM, what is told now or not");
        two.know(0, 2, 0);
        two.terms(LIE, 1);
        due("table(0)", two.table(0), 2);
        sentence("an EXAM goes by what is LIKED, OUT and KNOWN now");
        ExamSlips now = set(of(4), 2, 3, 2);
        now.know(0, 1, 1);
        dueTable(now, 0, 6, 6, 0);
        now.know(0, 1, 0);
        dueTable(now, 0, 10, 10, 0);
        now.know(3, 2, 1);
        // 0 of 0, 1, 2; 1 of 1, 2
        dueTable(now, 0, 5, 5, 0);
        now.know(3, 2, 0);
        dueTable(now, 0, 10, 10, 0);
    }

    private static void examsInARow() {
        sentence("39. exams: n EXAMS (1 .. 500). NONE");
        ExamSlips x = knowing(oneOf(1), 1);
        due("exams(0, 0)", x.exams(0, 0), NONE);
        due("exams(-1, 0)", x.exams(-1, 0), NONE);
        due("exams(501, 0)", x.exams(501, 0), NONE);
        due("exams(least, 0)", x.exams(LEAST, 0), NONE);
        due("exams(most, 0)", x.exams(MOST, 0), NONE);
        due("exams(1, 0)", x.exams(1, 0), 1);
        ExamSlips sure = knowing(oneOf(1), 2);
        due("exams(500, 0)", sure.exams(500, 0), 500);
        due("exams(499, 0)", sure.exams(499, 0), 499);
        sentence("39. exams: the first with a SEED (0 .. 1,000,000). NONE");
        due("exams(1, -1)", x.exams(1, -1), NONE);
        due("exams(1, 1000001)", x.exams(1, 1_000_001), NONE);
        due("exams(1, least)", x.exams(1, LEAST), NONE);
        due("exams(1, most)", x.exams(1, MOST), NONE);
        due("exams(1, 1000000): 36", x.exams(1, 1_000_000), 1);
        sentence("39. exams: one behind the other");
        // 45, 41, 89, 57, 60, 50, 73, 41: below 50 are the first two and the last
        int[] passed = {1, 2, 2, 2, 2, 2, 2, 3};
        for (int n = 1; n <= 8; n++) {
            due("exams(" + n + ", 0)", x.exams(n, 0), passed[n - 1]);
        }
        sentence("39. exams: in how many one PASSES: at least WANTED");
        ExamSlips two = knowing(set(of(2), 2, 2, 2), 1, 1);
        // 45 41, 89 57, 60 50, 73 41
        due("exams(4, 0), both wanted", two.exams(4, 0), 1);
        two.terms(WANTED, 1);
        due("exams(4, 0), one wanted", two.exams(4, 0), 2);
        two.terms(WANTED, 3);
        due("exams(4, 0), more wanted than lie there", two.exams(4, 0), 0);
        sentence("39. exams: each with DRAWS of its own");
        ExamSlips four = knowing(set(of(4), 1, 1, 1), 0, 2);
        // 12345 is 1 of 4, then 41; 621889 is 1 of 4, then 57; 113460 is 0; 671873 is 1
        due("exams(1, 0)", four.exams(1, 0), 1);
        due("exams(2, 0)", four.exams(2, 0), 2);
        due("exams(3, 0)", four.exams(3, 0), 2);
        due("exams(4, 0)", four.exams(4, 0), 3);
        sentence("38. table: exams are no latest EXAM");
        due("table(0)", four.table(0), NONE);
        dueTable(four, 0, 2, 2, 2);
        four.exams(3, 0);
        due("table(0)", four.table(0), 2);
    }

    private static void images() {
        sentence("40. image: IMAGES 0, 1. -1");
        ExamSlips x = of(1);
        due("image(-1)", x.image(-1), -1);
        due("image(2)", x.image(2), -1);
        due("image(least)", x.image(LEAST), -1);
        due("image(most)", x.image(MOST), -1);
        sentence("41. back: -2 it was not kept");
        due("back(0)", x.back(0), -2);
        due("back(1)", x.back(1), -2);
        due("image(1)", x.image(1), 0);
        due("back(0)", x.back(0), -2);
        due("back(1)", x.back(1), 0);
        due("image(0)", x.image(0), 0);
        due("back(0)", x.back(0), 0);
        sentence("41. back: -1");
        due("back(-1)", x.back(-1), -1);
        due("back(2)", x.back(2), -1);
        due("back(least)", x.back(LEAST), -1);
        due("back(most)", x.back(MOST), -1);
        imagesKeep();
        imagesDoNotKeep();
        imagesStay();
        roomAgain();
    }

    private static void imagesKeep() {
        imagesOfQuestions();
        imagesOfTerms();
        imagesOfPapers();
        imagesOfDiaries();
        imagesOfFriendsAndYears();
        imagesAndWhatIsTold();
    }

    private static void imagesOfQuestions() {
        sentence("BACK to one all that it keeps is as it was then: QUESTIONS");
        ExamSlips x = new ExamSlips();
        x.image(1);
        x.question(1, 11);
        x.question(2, 22);
        x.know(0, 0, 1);
        x.know(0, 1, 1);
        x.know(1, 2, 1);
        x.image(0);
        x.back(1);
        due("count(0)", x.count(0), 0);
        x.question(3, 33);
        due("of(0, 2), a new one", x.of(0, 2), 0);
        due("of(0, 3), a new one", x.of(0, 3), 0);
        x.question(4, 44);
        due("of(1, 4), a new one", x.of(1, 4), 0);
        x.question(4, 55);
        x.back(0);
        due("count(0)", x.count(0), 2);
        due("count(1)", x.count(1), 1);
        due("count(5)", x.count(5), 1);
        int[][] is = {{1, 11, 1, 1, 0}, {2, 22, 0, 0, 1}};
        for (int q = 0; q < 2; q++) {
            for (int what = 0; what < 5; what++) {
                due("of(" + q + ", " + what + ")", x.of(q, what), is[q][what]);
            }
        }
    }

    private static void imagesOfTerms() {
        sentence("BACK to one all that it keeps is as it was then: TERMS");
        int[] first = {8, 3, 2, 0, 10, 19, 6};
        int[] then = {7, 2, 1, 50, 20, 18, 5};
        ExamSlips y = new ExamSlips();
        y.image(0);
        for (int what = 0; what < 7; what++) {
            y.terms(what, then[what]);
        }
        y.image(1);
        y.back(0);
        for (int what = 0; what < 7; what++) {
            due("terms(" + what + ")", y.terms(what, 1), first[what]);
        }
        y.back(1);
        for (int what = 0; what < 7; what++) {
            due("terms(" + what + ")", y.terms(what, 1), then[what]);
        }
    }

    private static void imagesOfPapers() {
        sentence("BACK to one all that it keeps is as it was then: PAPERS, the one in USE");
        ExamSlips z = of(1);
        z.image(1);
        by(z, "hours 5");
        paper(z, "hours 6");
        z.image(0);
        z.use(1);
        z.back(1);
        due("count(2)", z.count(2), 0);
        due("count(12)", z.count(12), NONE);
        due("use(0)", z.use(0), -2);
        due("paper()", paper(z, "hours 7"), 0);
        due("paper()", paper(z, "hours 8"), 1);
        z.use(1);
        z.back(0);
        due("count(2)", z.count(2), 2);
        due("count(12)", z.count(12), 0);
        due("takes by 0", z.takes(0, 1, 0), 5);
        z.use(1);
        due("takes by 1", z.takes(0, 1, 0), 6);
    }

    private static void imagesOfDiaries() {
        sentence("BACK to one all that it keeps is as it was then: the DIARY");
        ExamSlips w = of(2);
        w.image(1);
        w.lesson(2, 1);
        w.image(0);
        w.back(1);
        due("count(3)", w.count(3), 0);
        due("behind(2, 1)", w.behind(2, 1), 0);
        w.lesson(3, 0);
        w.lesson(2, 0);
        due("behind(3, 0)", w.behind(3, 0), 2);
        w.back(0);
        due("count(3)", w.count(3), 1);
        dueDays(w, 1, 0, 0, 1, 1);
        dueDays(w, 0, 0, 0, 0, 0);
    }

    private static void imagesOfFriendsAndYears() {
        sentence("BACK to one all that it keeps is as it was then: HOURS of FRIENDS");
        ExamSlips v = friendsOf(of(1), 8, 9, 10);
        v.image(0);
        friendsOf(v, 1, 2, 3);
        due("share(0)", v.share(0), NONE);
        v.back(0);
        due("share(0)", v.share(0), 0);
        due("friend(0, 0)", v.friend(0, 0), 8);
        due("friend(1, 0)", v.friend(1, 0), 9);
        due("friend(2, 0)", v.friend(2, 0), 10);
        sentence("BACK to one all that it keeps is as it was then: YEARS");
        ExamSlips u = of(2);
        u.image(1);
        u.year(1);
        u.year(2);
        u.image(0);
        u.back(1);
        due("count(4)", u.count(4), 0);
        u.year(2);
        u.year(1);
        u.year(3);
        u.back(0);
        due("count(4)", u.count(4), 2);
        due("drawn(0, 1)", u.drawn(0, 1), 1);
        due("drawn(1, 1)", u.drawn(1, 1), 0);
        due("drawn(0, 0)", u.drawn(0, 0), 1);
    }

    private static void imagesAndWhatIsTold() {
        sentence("BACK: what is told of it is as it was then");
        ExamSlips t = oneOf(2);
        t.image(0);
        dueBest(t, 16, 1, 1, 16);
        by(t, "hours 8");
        t.lesson(0, 0);
        t.terms(HOURS, 16);
        dueBest(t, 16, 1, 2, 16);
        due("behind(0, NONE)", t.behind(0, NONE), 8);
        t.back(0);
        dueBest(t, 16, 1, 1, 16);
        due("behind(0, NONE)", t.behind(0, NONE), 0);
    }

    private static void imagesDoNotKeep() {
        sentence("IMAGES 0, 1 keep all but the TAPE, FAULT, LOST, the latest EXAM");
        ExamSlips x = knowing(oneOf(1), 2);
        x.image(0);
        paper(x, "keeps ?");
        x.feed(1, 2, 1, 1, 1);
        x.end(12);
        x.row();
        x.exam(0);
        x.feed(1, 2, 3, 4, 5);
        due("back(0)", x.back(0), 0);
        due("count(6)", x.count(6), 20);
        due("fault()", x.fault(), 6);
        due("lost()", x.lost(), 1);
        due("table(0)", x.table(0), 1);
        due("table(2)", x.table(2), 1);
        due("count(4)", x.count(4), 0);
        x.end(0);
        paper(x, "keeps 5");
        due("back(0)", x.back(0), 0);
        due("fault()", x.fault(), NONE);
        due("count(2)", x.count(2), 0);
        sentence("how many calls were REFUSED .. (IMAGES do not keep that)");
        ExamSlips y = of(1);
        y.question(9, 9);
        y.image(0);
        y.question(9, 9);
        y.know(9, 0, 0);
        y.paper();
        y.back(0);
        due("count(7)", y.count(7), 2);
        due("count(8)", y.count(8), 1);
        due("count(11)", y.count(11), 1);
    }

    private static void imagesStay() {
        sentence("(IMAGES stay)");
        ExamSlips x = of(1);
        x.image(0);
        x.question(0, 1);
        x.image(1);
        due("back(0)", x.back(0), 0);
        due("count(0)", x.count(0), 1);
        due("back(1), though 0 is older", x.back(1), 0);
        due("count(0)", x.count(0), 2);
        x.question(0, 1);
        x.back(1);
        due("count(0), once more", x.count(0), 2);
        x.know(0, 0, 2);
        x.back(1);
        due("of(0, 2): the IMAGE did not change", x.of(0, 2), 0);
        sentence("40. IMAGE k is kept: the latest one");
        x.know(0, 0, 1);
        x.image(1);
        x.know(0, 0, 2);
        x.back(1);
        due("of(0, 2)", x.of(0, 2), 1);
        x.back(0);
        due("of(0, 2)", x.of(0, 2), 0);
        due("count(0)", x.count(0), 1);
    }

    private static void roomAgain() {
        sentence("BACK: what was full has room again");
        ExamSlips x = of(19);
        for (int i = 0; i < 119; i++) {
            x.lesson(0, 0);
        }
        for (int i = 0; i < 39; i++) {
            x.year(0);
        }
        for (int i = 0; i < 5; i++) {
            paper(x, "hours 1");
        }
        x.image(0);
        for (int times = 0; times < 2; times++) {
            due("question(0, 1)", x.question(0, 1), 19);
            due("question(0, 1)", x.question(0, 1), -5);
            due("lesson(0, 19)", x.lesson(0, 19), 120);
            due("lesson(0, 19)", x.lesson(0, 19), -5);
            due("year(0)", x.year(0), 40);
            due("year(0)", x.year(0), -5);
            due("paper()", paper(x, "hours 1"), 5);
            due("paper()", paper(x, "hours 1"), -5);
            x.back(0);
        }
        due("lesson(0, 19) of what is not there", x.lesson(0, 19), -2);
        due("year(1 << 19) of what is not there", x.year(1 << 19), -1);
        sentence("24. clear: 120 LESSONS have room again");
        x.clear();
        for (int i = 1; i <= 120; i++) {
            due("lesson(0, 0)", x.lesson(0, 0), i);
        }
        due("lesson(0, 0)", x.lesson(0, 0), -5);
        sentence("the TAPE is empty then: 400 bytes have room again");
        tape(x, "?".repeat(400));
        due("feed", x.feed(0, 0, 0, 0, 0), NONE);
        x.row();
        due("feed behind row", x.feed(0, 0, 0, 0, 0), 20);
        tape(x, "?".repeat(400));
        x.paper();
        due("feed behind paper", x.feed(0, 0, 0, 0, 0), 20);
    }

    private static void counts() {
        countsOfThings();
        countsOfRefusals();
        noneIsNoRefusal();
    }

    private static void countsOfThings() {
        sentence("42. count: 0 QUESTIONS, 1 in the BOWL, 5 those KNOWN half or well");
        ExamSlips x = knowing(of(4), 0, 1, 2, 2);
        x.know(3, 2, 1);
        due("count(0)", x.count(0), 4);
        due("count(1)", x.count(1), 3);
        due("count(5)", x.count(5), 3);
        sentence("42. count: 2 PAPERS, 3 LESSONS, 4 YEARS, 6 bytes of the TAPE, 12 the PAPER in USE");
        paper(x, "hours 1");
        paper(x, "hours 2");
        x.lesson(0, 0);
        x.lesson(0, 1);
        x.lesson(1, 1);
        x.year(0);
        x.use(1);
        x.feed(0, 0, 0, 0, 0);
        x.end(5);
        due("count(2)", x.count(2), 2);
        due("count(3)", x.count(3), 3);
        due("count(4)", x.count(4), 1);
        due("count(6)", x.count(6), 5);
        due("count(12)", x.count(12), 1);
        x.use(NONE);
        due("count(12)", x.count(12), NONE);
        sentence("42. count: NONE for others");
        due("count(-1)", x.count(-1), NONE);
        due("count(13)", x.count(13), NONE);
        due("count(least)", x.count(LEAST), NONE);
        due("count(most)", x.count(MOST), NONE);
    }

    private static void countsOfRefusals() {
        sentence("42. count: 7 .. 11 how many calls were REFUSED by -1, -2, -3, -5, -6");
        ExamSlips x = of(4);
        dueRefused(x, 0, 0, 0, 0);
        x.question(-1, 1);
        dueRefused(x, 1, 0, 0, 0);
        x.know(4, 0, 0);
        dueRefused(x, 1, 1, 0, 0);
        x.row();
        dueRefused(x, 1, 1, 0, 1);
        x.paper();
        dueRefused(x, 1, 1, 0, 2);
        for (int i = 0; i < 20; i++) {
            x.question(0, 1);
        }
        dueRefused(x, 1, 1, 4, 2);
        x.terms(0, 0);
        x.know(0, 0, 3);
        x.lesson(20, 0);
        x.friend(0, 100);
        x.year(-1);
        x.exam(-1);
        x.image(2);
        x.back(2);
        dueRefused(x, 9, 1, 4, 2);
        x.use(2);
        x.lesson(0, 20);
        x.back(0);
        dueRefused(x, 9, 4, 4, 2);
    }

    private static void noneIsNoRefusal() {
        sentence("42. count: NONE is no refusal");
        ExamSlips x = of(1);
        x.of(99, 0);
        x.feed(0, 0, 0, 0, 0);
        x.end(-1);
        x.takes(99, 1, 0);
        x.keeps(99, 1);
        x.chance(9);
        x.pass(9);
        x.right(9, 0);
        x.mean(9);
        x.sure(99, 0);
        x.worth(99);
        x.best(999, 0);
        x.level(999, 0);
        x.enough(101);
        x.behind(99, 0);
        x.judge(9);
        x.backward(99, 1);
        x.share(99);
        x.ill(9, 9);
        x.drawn(99, 0);
        x.seldom(99);
        x.table(9);
        x.exams(0, 0);
        x.count(99);
        dueRefused(x, 0, 0, 0, 0);
    }

    private static void dueRefused(ExamSlips x, int cantBe, int noSuch, int noRoom, int unreadable) {
        due("count(7)", x.count(7), cantBe);
        due("count(8)", x.count(8), noSuch);
        due("count(9)", x.count(9), 0);
        due("count(10)", x.count(10), noRoom);
        due("count(11)", x.count(11), unreadable);
    }

    private static void dueStatus(ExamSlips x, String call, int answered, int refusedBy) {
        due("status() behind " + call, x.status(), refusedBy);
        if (refusedBy != 0) {
            due(call, answered, refusedBy);
        } else {
            due(call + " is not refused", answered < -1 ? answered : 0, 0);
        }
    }

    private static void statuses() {
        statusOfEachCall();
        statusWithoutRoom();
    }

    private static void statusOfEachCall() {
        sentence("43. status: what the latest call of question .. back was REFUSED by; 0 if it was not");
        ExamSlips x = new ExamSlips();
        dueStatus(x, "question", x.question(5, 1), -1);
        dueStatus(x, "question", x.question(0, 1), 0);
        dueStatus(x, "know", x.know(0, 0, 3), -1);
        dueStatus(x, "know", x.know(0, 0, 1), 0);
        dueStatus(x, "know", x.know(1, 0, 1), -2);
        dueStatus(x, "terms", x.terms(LIE, 8), 0);
        dueStatus(x, "terms", x.terms(LIE, 0), -1);
        dueStatus(x, "paper", paper(x, "hours 1"), 0);
        dueStatus(x, "paper", paper(x, "hours"), -6);
        dueStatus(x, "use", x.use(NONE), 0);
        dueStatus(x, "use", x.use(1), -2);
        dueStatus(x, "lesson", x.lesson(0, 0), 0);
        dueStatus(x, "lesson", x.lesson(20, 0), -1);
        dueStatus(x, "lesson", x.lesson(0, 1), -2);
        dueStatus(x, "learn", x.learn(), 0);
        dueStatus(x, "friend", x.friend(3, 0), -1);
        dueStatus(x, "friend", x.friend(2, 0), 0);
        dueStatus(x, "year", x.year(2), -1);
        dueStatus(x, "year", x.year(1), 0);
        dueStatus(x, "row", x.row(), -6);
        x.feed(9, 9, 9, 9, 9);
        dueStatus(x, "row of LOST ones", x.row(), 0);
        dueStatus(x, "exam", x.exam(-1), -1);
        dueStatus(x, "exam", x.exam(0), 0);
        dueStatus(x, "image", x.image(2), -1);
        dueStatus(x, "image", x.image(0), 0);
        dueStatus(x, "back", x.back(1), -2);
        dueStatus(x, "back", x.back(0), 0);
        dueStatus(x, "back", x.back(2), -1);
    }

    private static void statusWithoutRoom() {
        sentence("43. status: -5, no room");
        ExamSlips x = of(1);
        paper(x, "hours 1");
        x.lesson(0, 0);
        x.year(1);
        for (int i = 1; i < 20; i++) {
            x.question(0, 1);
        }
        dueStatus(x, "question", x.question(0, 1), -5);
        for (int i = 1; i < 6; i++) {
            paper(x, "hours 1");
        }
        dueStatus(x, "paper", paper(x, "hours 1"), -5);
        for (int i = 1; i < 120; i++) {
            x.lesson(0, 0);
        }
        due("status()", x.status(), 0);
        dueStatus(x, "lesson", x.lesson(0, 0), -5);
        for (int i = 1; i < 40; i++) {
            x.year(0);
        }
        due("status()", x.status(), 0);
        dueStatus(x, "year", x.year(0), -5);
        sentence("43. status: no other call matters");
        othersBehind(x);
        due("status() of what was refused", x.status(), -5);
        x.learn();
        othersBehind(x);
        due("status() of what was not", x.status(), 0);
    }

    private static void othersBehind(ExamSlips x) {
        x.of(0, 0);
        x.of(99, 0);
        x.end(0);
        x.end(-1);
        x.feed(0, 0, 0, 0, 0);
        x.fault();
        x.takes(0, 1, 0);
        x.takes(99, 1, 0);
        x.keeps(0, 1);
        x.keeps(99, 1);
        x.chance(0);
        x.chance(9);
        x.pass(0);
        x.pass(9);
        x.right(0, 0);
        x.right(9, 0);
        x.mean(0);
        x.sure(0, 0);
        x.sure(99, 0);
        x.safe();
        x.worth(0);
        x.worth(99);
        x.best(0, 0);
        x.best(999, 0);
        x.level(0, 0);
        x.level(999, 0);
        x.enough(0);
        x.enough(101);
        x.clear();
        x.behind(0, 0);
        x.behind(99, 0);
        x.judge(0);
        x.judge(9);
        x.backward(0, 1);
        x.backward(99, 1);
        x.share(0);
        x.share(99);
        x.ill(0, 0);
        x.ill(9, 9);
        x.lost();
        x.drawn(0, 0);
        x.drawn(99, 0);
        x.seldom(0);
        x.seldom(99);
        x.table(0);
        x.table(9);
        x.exams(1, 0);
        x.exams(0, 0);
        x.count(0);
        x.count(99);
    }
}
