/** Each promise by its number: ordinary inputs, the edges that the document names, wrong inputs. */
public final class PromisesTest {
    private static final int NOTHING = -10_000_000;
    private static int wrong = 0;
    private static int promise = 0;

    public static void main(String[] args) {
        newObject();
        questions();
        knowing();
        looking();
        terms();
        tape();
        papers();
        faults();
        limitsOfTexts();
        using();
        hoursTold();
        brokenSums();
        daysKept();
        chances();
        passing();
        leaning();
        rightOnes();
        meanAndSure();
        worth();
        bestSchemes();
        firstSchemes();
        enough();
        lessons();
        daysBehind();
        judging();
        backwards();
        friends();
        illDays();
        years();
        rows();
        draws();
        seldom();
        exams();
        images();
        counts();
        statuses();
        anyNumbers();
        System.out.println(wrong == 0 ? "PromisesTest: all answers are as due" : "PromisesTest: " + wrong + " answers are not as due");
        if (wrong != 0) {
            System.exit(1);
        }
    }

    private static void due(String call, long got, long want) {
        if (got != want) {
            wrong++;
            System.out.println("promise " + promise + ": " + call + " answered " + got + ", due is " + want);
        }
    }

    private static void tape(ExamSlips x, String text) {
        x.end(0);
        for (int at = 0; at < text.length(); at += 20) {
            int[] n = new int[5];
            for (int i = 0; i < 20; i++) {
                n[i / 4] = n[i / 4] << 8 | (at + i < text.length() ? text.charAt(at + i) : 0);
            }
            x.feed(n[0], n[1], n[2], n[3], n[4]);
        }
        x.end(text.length());
    }

    private static int paper(ExamSlips x, String text) {
        tape(x, text);
        return x.paper();
    }

    private static ExamSlips with(int questions) {
        ExamSlips x = new ExamSlips();
        for (int i = 0; i < questions; i++) {
            x.question(0, 10);
        }
        return x;
    }

    /** With a paper in use: two questions, the first of king 3 with 40 pages and liked. */
    private static ExamSlips told(String text) {
        ExamSlips x = new ExamSlips();
        x.question(3, 40);
        x.question(0, 7);
        x.know(0, 1, 1);
        int paper = paper(x, text);
        if (paper != 0 || x.use(0) != -1) {
            wrong++;
            System.out.println("promise " + promise + ": not read: " + text + " at " + x.fault());
        }
        return x;
    }

    private static void faultAt(String text, int place) {
        ExamSlips x = new ExamSlips();
        due("paper() of " + text, paper(x, text), -6);
        due("fault() of " + text, x.fault(), place);
        due("count(2) of " + text, x.count(2), 0);
    }

    private static void reads(String text) {
        ExamSlips x = new ExamSlips();
        due("paper() of " + text, paper(x, text), 0);
        due("fault() of " + text, x.fault(), -1);
    }

    private static String many(String text, int times) {
        return text.repeat(times);
    }

    private static void newObject() {
        promise = 1;
        ExamSlips x = new ExamSlips();
        int[] due = {0, 0, 0, 0, 0, 0, 0, 0, 0, 0, 0, 0, -1};
        for (int what = 0; what < due.length; what++) {
            due("count(" + what + ")", x.count(what), due[what]);
        }
        due("NONE", ExamSlips.NONE, -1);
        due("status()", x.status(), 0);
        due("fault()", x.fault(), -1);
        due("lost()", x.lost(), 0);
        due("table(0)", x.table(0), -1);
        due("best(0, 0)", x.best(0, 0), 0);
        due("best(0, 1)", x.best(0, 1), 1);
        due("best(9, 2)", x.best(9, 2), 0);
        due("backward(-1, 1)", x.backward(-1, 1), 0);
        due("backward(-1, 2)", x.backward(-1, 2), -1);
        due("share(-1)", x.share(-1), 0);
        due("behind(0, -1)", x.behind(0, -1), 0);
        due("learn()", x.learn(), 0);
        due("exam(5)", x.exam(5), 0);
        due("table(0)", x.table(0), 0);
        due("exams(3, 5)", x.exams(3, 5), 0);
        due("ill(2, 5)", x.ill(2, 5), 0);
    }

    private static void questions() {
        promise = 2;
        ExamSlips x = new ExamSlips();
        due("question(-1, 1)", x.question(-1, 1), -1);
        due("question(5, 1)", x.question(5, 1), -1);
        due("question(0, 0)", x.question(0, 0), -1);
        due("question(0, 100)", x.question(0, 100), -1);
        due("question(4, 99)", x.question(4, 99), 0);
        due("question(0, 1)", x.question(0, 1), 1);
        for (int i = 2; i < 20; i++) {
            due("question(1, 2)", x.question(1, 2), i);
        }
        due("question(1, 2) for the 21st", x.question(1, 2), -5);
        due("question(9, 2) for the 21st", x.question(9, 2), -1);
        due("count(0)", x.count(0), 20);
    }

    private static void knowing() {
        promise = 3;
        ExamSlips x = with(2);
        due("know(0, 0, 2)", x.know(0, 0, 2), 0);
        due("know(0, 0, 1)", x.know(0, 0, 1), 2);
        due("know(0, 1, 1)", x.know(0, 1, 1), 0);
        due("know(0, 1, 0)", x.know(0, 1, 0), 1);
        due("know(1, 2, 1)", x.know(1, 2, 1), 0);
        due("know(1, 2, 1)", x.know(1, 2, 1), 1);
        due("know(0, 0, 3)", x.know(0, 0, 3), -1);
        due("know(0, 0, -1)", x.know(0, 0, -1), -1);
        due("know(0, 1, 2)", x.know(0, 1, 2), -1);
        due("know(0, 2, 2)", x.know(0, 2, 2), -1);
        due("know(0, 3, 0)", x.know(0, 3, 0), -1);
        due("know(0, -1, 0)", x.know(0, -1, 0), -1);
        due("know(2, 0, 0)", x.know(2, 0, 0), -2);
        due("know(-1, 0, 0)", x.know(-1, 0, 0), -2);
        due("know(2, 0, 3)", x.know(2, 0, 3), -1);
        due("of(0, 2)", x.of(0, 2), 1);
    }

    private static void looking() {
        promise = 4;
        ExamSlips x = new ExamSlips();
        x.question(3, 77);
        x.know(0, 0, 1);
        x.know(0, 2, 1);
        int[] due = {3, 77, 1, 0, 1};
        for (int what = 0; what < 5; what++) {
            due("of(0, " + what + ")", x.of(0, what), due[what]);
        }
        due("of(0, 5)", x.of(0, 5), -1);
        due("of(0, -1)", x.of(0, -1), -1);
        due("of(1, 0)", x.of(1, 0), -1);
        due("of(-1, 0)", x.of(-1, 0), -1);
        due("count(7)", x.count(7), 0);
    }

    private static void terms() {
        promise = 5;
        int[] first = {8, 3, 2, 0, 10, 19, 6};
        int[] least = {1, 1, 1, 0, 0, 1, 0};
        int[] most = {10, 3, 3, 100, 100, 20, 16};
        ExamSlips x = new ExamSlips();
        for (int what = 0; what < 7; what++) {
            due("terms below " + what, x.terms(what, least[what] - 1), -1);
            due("terms above " + what, x.terms(what, most[what] + 1), -1);
            due("terms least " + what, x.terms(what, least[what]), first[what]);
            due("terms most " + what, x.terms(what, most[what]), least[what]);
            due("terms again " + what, x.terms(what, most[what]), most[what]);
        }
        due("terms(7, 1)", x.terms(7, 1), -1);
        due("terms(-1, 1)", x.terms(-1, 1), -1);
    }

    private static void tape() {
        promise = 6;
        ExamSlips x = new ExamSlips();
        for (int i = 1; i <= 20; i++) {
            due("feed", x.feed(0, 0, 0, 0, 0), 20 * i);
        }
        due("feed beyond 400", x.feed(0, 0, 0, 0, 0), -1);
        due("count(6)", x.count(6), 400);
        due("end(381)", x.end(381), 381);
        due("feed with 381", x.feed(0, 0, 0, 0, 0), -1);
        due("end(380)", x.end(380), 380);
        due("feed with 380", x.feed(1, 2, 3, 4, 5), 400);
        ExamSlips y = with(20);
        y.feed(0x00012345, 1, 2, 0x000fffff, 4);
        due("row()", y.row(), 5);
        due("drawn(16, 1)", y.drawn(16, 1), 1);
        due("drawn(6, 1)", y.drawn(6, 1), 1);
        due("drawn(2, 1)", y.drawn(2, 1), 0);
        due("drawn(16, 0)", y.drawn(16, 0), 2);
        promise = 7;
        ExamSlips z = new ExamSlips();
        due("end(0)", z.end(0), 0);
        due("end(1)", z.end(1), -1);
        due("end(-1)", z.end(-1), -1);
        z.feed(0, 0, 0, 0, 0);
        due("end(21)", z.end(21), -1);
        due("end(20)", z.end(20), 20);
        due("end(7)", z.end(7), 7);
        due("end(8)", z.end(8), -1);
        due("count(6)", z.count(6), 7);
        due("feed", z.feed(0, 0, 0, 0, 0), 27);
    }

    private static void papers() {
        promise = 8;
        ExamSlips x = new ExamSlips();
        due("paper() of nothing", x.paper(), -6);
        due("fault()", x.fault(), 0);
        due("paper() of blanks", paper(x, "    "), -6);
        due("fault()", x.fault(), 4);
        for (int i = 0; i < 6; i++) {
            due("paper()", paper(x, "hours " + i), i);
            due("count(6)", x.count(6), 0);
        }
        due("fault()", x.fault(), -1);
        due("paper() for the 7th", paper(x, "hours"), -5);
        due("count(6)", x.count(6), 0);
        due("fault() is of a text that was read", x.fault(), -1);
        due("count(2)", x.count(2), 6);
        due("paper() of nothing for the 7th", x.paper(), -5);
        promise = 9;
        ExamSlips y = new ExamSlips();
        due("fault()", y.fault(), -1);
        paper(y, "hours 1 1");
        due("fault()", y.fault(), 8);
        due("count(6)", y.count(6), 0);
        paper(y, "hours 1");
        due("fault()", y.fault(), -1);
    }

    private static void faults() {
        promise = 9;
        faultAt("hours", 5);
        faultAt("hours   ", 8);
        faultAt("hour 1", 0);
        faultAt("  Hours 1", 2);
        faultAt("hours 1;", 8);
        faultAt("hours 1; ;", 9);
        faultAt("hours 1 keeps 1", 8);
        faultAt("hours -1", 6);
        faultAt("hours 1001", 6);
        faultAt("hours 99999999999999999999", 6);
        faultAt("hours (1)", 6);
        faultAt("hours [1", 8);
        faultAt("hours [1)", 8);
        faultAt("hours 1 if", 10);
        faultAt("hours 1 if 1", 12);
        faultAt("hours 1 if [1=1]", 13);
        faultAt("hours 1 if (1)", 13);
        faultAt("hours 1 if (1=1]", 15);
        faultAt("hours 1 if 1=1=1", 14);
        faultAt("hours 1 if 1<=1", 13);
        faultAt("hours 1 if 1=1 and", 18);
        faultAt("hours 1 if not not", 18);
        faultAt("hours 1 if 1=1 if 1=1", 15);
        faultAt("hours hours", 6);
        faultAt("hours levels", 6);
        faultAt("hours level2", 11);
        faultAt("hours levelz", 6);
        faultAt("hours levela", 6);
        faultAt("hours level{", 11);
        faultAt("hours 90:", 8);
        faultAt("hours 1\n", 7);
        faultAt("hours 1 if 1=1 or and", 18);
        reads("hours5");
        reads("hours 1000");
        reads("hours 0000000000000000000001000");
        reads("  hours   1  ");
        reads("hours 1if 1=1and 2=2or not(3=3)");
        reads("hours [[level]]*[2-1]");
        reads("keeps helped; chance day; hours question-liked+king*pages/level");
    }

    private static void limitsOfTexts() {
        promise = 8;
        reads(many("hours 1;", 11) + "hours 1");
        faultAt(many("hours 1;", 12) + "hours 1", 96);
        faultAt(many("hours 1;", 12) + " ?", 97);
        faultAt(many("hours 1;", 12), 96);
        reads("hours 1" + many("+1", 49));
        faultAt("hours 1" + many("+1", 50), 7 + 49 * 2 + 1);
        faultAt("hours 1" + many("+1", 49) + ";hours level", 105 + 1 + 6);
        faultAt("hours 1" + many("+1", 49) + " if level=1", 105 + 4);
        reads("hours " + many("[", 8) + "1" + many("]", 8));
        faultAt("hours " + many("[", 9) + "1" + many("]", 9), 14);
        reads("hours 1 if " + many("(", 8) + "1=1" + many(")", 8));
        faultAt("hours 1 if " + many("(", 9) + "1=1" + many(")", 9), 19);
        reads("hours 1 if " + many("(", 5) + many("[", 3) + "1" + many("]", 3) + "=1" + many(")", 5));
        faultAt("hours 1 if " + many("(", 5) + many("[", 4) + "1" + many("]", 4) + "=1" + many(")", 5), 19);
        reads("hours " + many("[", 8) + "1" + many("]", 8) + "+" + many("[", 8) + "1" + many("]", 8));
        reads("hours 1 if " + many("not ", 95) + "1=1");
        ExamSlips x = told("hours 9 if " + many("not ", 95) + "1=1");
        due("takes(0, 1, 0) by an odd row of not", x.takes(0, 1, 0), 4);
        x = told("hours 9 if " + many("not ", 94) + "1=1");
        due("takes(0, 1, 0) by an even row of not", x.takes(0, 1, 0), 9);
    }

    private static void using() {
        promise = 10;
        ExamSlips x = with(1);
        due("use(0)", x.use(0), -2);
        due("use(-1)", x.use(-1), -1);
        due("status()", x.status(), 0);
        paper(x, "hours 5");
        paper(x, "hours 7");
        due("takes", x.takes(0, 1, 0), 4);
        due("use(1)", x.use(1), -1);
        due("takes", x.takes(0, 1, 0), 7);
        due("use(0)", x.use(0), 1);
        due("takes", x.takes(0, 1, 0), 5);
        due("use(2)", x.use(2), -2);
        due("use(-2)", x.use(-2), -2);
        due("count(12)", x.count(12), 0);
        due("use(-1)", x.use(-1), 0);
        due("takes", x.takes(0, 1, 0), 4);
    }

    private static void hoursTold() {
        promise = 11;
        ExamSlips x = told("hours king+pages/10+level*2+helped*3+liked*4+question");
        due("takes(0, 1, 0)", x.takes(0, 1, 0), 3 + 4 + 2 + 4);
        due("takes(0, 2, 1)", x.takes(0, 2, 1), 3 + 4 + 4 + 3 + 4);
        due("takes(1, 2, 1)", x.takes(1, 2, 1), 4 + 3 + 1);
        due("takes(0, 3, 0)", x.takes(0, 3, 0), 1);
        due("takes(0, 3, 1)", x.takes(0, 3, 1), 1);
        due("takes(0, 0, 0)", x.takes(0, 0, 0), -1);
        due("takes(0, 4, 0)", x.takes(0, 4, 0), -1);
        due("takes(0, 1, 2)", x.takes(0, 1, 2), -1);
        due("takes(0, 1, -1)", x.takes(0, 1, -1), -1);
        due("takes(0, 3, 2)", x.takes(0, 3, 2), -1);
        due("takes(2, 1, 0)", x.takes(2, 1, 0), -1);
        due("takes(-1, 3, 0)", x.takes(-1, 3, 0), -1);
        due("day is 0", told("hours 5+day").takes(0, 1, 0), 5);
        due("below 1", told("hours 0-5").takes(0, 1, 0), 1);
        due("above 20", told("hours 21").takes(0, 1, 0), 20);
        due("none holds", told("hours 9 if king=4").takes(0, 1, 0), 4);
        due("other heads", told("keeps 9;chance 8").takes(0, 1, 0), 4);
        due("the last that holds", told("hours 7;hours 9 if king=3;hours 11 if king=2").takes(0, 1, 0), 9);
        due("times first", told("hours 2+3*4-6/3").takes(0, 1, 0), 12);
        due("from the left", told("hours 20-5-4").takes(0, 1, 0), 11);
        due("from the left", told("hours 100/10/2*3").takes(0, 1, 0), 15);
        due("brackets", told("hours [2+3]*[4-1]").takes(0, 1, 0), 15);
        due("cut towards 0", told("hours 10+[0-7]/2").takes(0, 1, 0), 7);
        due("and first", told("hours 9 if 1=1 or 1=1 and 1=2").takes(0, 1, 0), 9);
        due("and first", told("hours 9 if 1=2 and 1=1 or 1=1").takes(0, 1, 0), 9);
        due("in brackets", told("hours 9 if (1=1 or 1=1) and 1=2").takes(0, 1, 0), 4);
        due("not binds the next", told("hours 9 if not 1=2 and 1=1").takes(0, 1, 0), 9);
        due("not binds the next", told("hours 9 if not 1=1 or 1=1").takes(0, 1, 0), 9);
        due("not of brackets", told("hours 9 if not (1=1 or 1=1)").takes(0, 1, 0), 4);
        due("less", told("hours 9 if 1<2").takes(0, 1, 0), 9);
        due("less", told("hours 9 if 2<2").takes(0, 1, 0), 4);
        due("more", told("hours 9 if 2>1").takes(0, 1, 0), 9);
        due("more", told("hours 9 if 2>2").takes(0, 1, 0), 4);
    }

    private static void brokenSums() {
        promise = 11;
        due("divided by 0", told("hours 9;hours 5/question").takes(0, 1, 0), 9);
        due("divided by 1", told("hours 9;hours 5/question").takes(1, 1, 0), 5);
        due("a billion", told("hours 9;hours 1000*1000*1000/1000/1000/100").takes(0, 1, 0), 10);
        due("beyond a billion", told("hours 9;hours [1000*1000*1000+1]/1000").takes(0, 1, 0), 9);
        due("beyond on the way", told("hours 9;hours 1000*1000*1000*2/1000/1000/1000").takes(0, 1, 0), 9);
        due("a billion below 0", told("hours 9;hours 5+[0-1000*1000*1000]/1000/1000/1000").takes(0, 1, 0), 4);
        due("beyond below 0", told("hours 9;hours 0-1000*1000*1000-1").takes(0, 1, 0), 9);
        due("a broken test", told("hours 9;hours 5 if 1/0=0").takes(0, 1, 0), 9);
        due("not of a broken test", told("hours 9;hours 5 if not 1/0=0").takes(0, 1, 0), 9);
        due("broken, then or", told("hours 9;hours 5 if 1/0=0 or 1=1").takes(0, 1, 0), 9);
        due("or, then broken", told("hours 9;hours 5 if 1=1 or 1/0=0").takes(0, 1, 0), 5);
        due("or, that still matters", told("hours 9;hours 5 if 1=2 or 1/0=0").takes(0, 1, 0), 9);
        due("and, then broken", told("hours 9;hours 5 if not (1=2 and 1/0=0)").takes(0, 1, 0), 5);
        due("and, that still matters", told("hours 9;hours 5 if 1=1 and 1/0=0").takes(0, 1, 0), 9);
        due("behind a settled and", told("hours 9;hours 5 if 1=2 and 1/0=0 or 1=1").takes(0, 1, 0), 5);
        due("behind a settled or", told("hours 9;hours 5 if (1=1 or 1/0=0) and 2=2").takes(0, 1, 0), 5);
        due("settled by the first of three", told("hours 9;hours 5 if 1=1 or 1/0=0 or 2/0=0").takes(0, 1, 0), 5);
        due("settled by the first of three", told("hours 9;hours 5 if not(1=2 and 1/0=0 and 2/0=0)").takes(0, 1, 0), 5);
    }

    private static void daysKept() {
        promise = 12;
        ExamSlips x = told("keeps king+pages/10+level*2+helped*3+liked*4+question+day*9");
        due("keeps(0, 1)", x.keeps(0, 1), 3 + 4 + 2 + 4);
        due("keeps(1, 2)", x.keeps(1, 2), 4 + 1);
        due("keeps(0, 0)", x.keeps(0, 0), -1);
        due("keeps(0, 3)", x.keeps(0, 3), -1);
        due("keeps(2, 1)", x.keeps(2, 1), -1);
        due("keeps(-1, 1)", x.keeps(-1, 1), -1);
        due("without", told("hours 5").keeps(0, 2), 10);
        due("below", told("keeps 0").keeps(0, 2), 1);
        due("above", told("keeps 31").keeps(0, 2), 30);
    }

    private static void chances() {
        promise = 13;
        ExamSlips x = with(1);
        due("chance(0)", x.chance(0), 0);
        due("chance(1)", x.chance(1), 50);
        due("chance(2)", x.chance(2), 100);
        due("chance(3)", x.chance(3), -1);
        due("chance(-1)", x.chance(-1), -1);
        x = told("chance 20+level+[king+pages+helped+liked+day+question]*50");
        due("chance(0)", x.chance(0), 20);
        due("chance(2)", x.chance(2), 22);
        x = told("chance 101 if level=2;chance 0-1 if level=1");
        due("chance(0)", x.chance(0), 0);
        due("chance(1)", x.chance(1), 0);
        due("chance(2)", x.chance(2), 100);
    }

    private static void passing() {
        promise = 14;
        ExamSlips x = with(4);
        x.terms(0, 3);
        x.terms(1, 2);
        x.know(0, 0, 2);
        x.know(1, 0, 1);
        // sets 012, 013 hold both (1/2), 023 and 123 can't pass with 2
        due("pass(0)", x.pass(0), 1);
        due("pass(1)", x.pass(1), 4);
        due("pass(2)", x.pass(2), -1);
        due("pass(-1)", x.pass(-1), -1);
        x.terms(2, 1);
        // 012, 013, 023 pass for sure, 123 by a half
        due("pass(0)", x.pass(0), 7);
        due("pass(1)", x.pass(1), 8);
        x.terms(2, 3);
        due("pass(0), more wanted than answered", x.pass(0), 0);
        due("pass(1)", x.pass(1), 1);
        x.terms(2, 1);
        x.know(2, 2, 1);
        x.know(3, 2, 1);
        due("pass(0), all lie there", x.pass(0), 1);
        due("pass(1)", x.pass(1), 1);
        x.know(0, 2, 1);
        due("pass(0), one lies there", x.pass(0), 1);
        due("pass(1)", x.pass(1), 2);
        ExamSlips y = told("chance 30 if level=0;chance 20 if level=2;chance 10 if level=1");
        y.terms(0, 2);
        y.terms(1, 1);
        y.terms(2, 1);
        y.know(0, 0, 2);
        due("pass(0): those with the greatest chance, not level", y.pass(0), 3);
        due("pass(1)", y.pass(1), 10);
        ExamSlips z = with(20);
        paper(z, "chance 37;chance 73 if level=2;chance 59 if level=1");
        z.use(0);
        z.terms(0, 10);
        z.terms(3, 37);
        for (int q = 0; q < 20; q++) {
            z.know(q, 0, q % 3);
            z.know(q, 1, q % 7 == 1 ? 1 : 0);
        }
        z.know(3, 1, 1);
        long whole = z.pass(1);
        due("pass over a large bowl", whole > 1_000_000 && z.pass(0) > 0 && z.pass(0) < whole ? 1 : 0, 1);
    }

    private static void leaning() {
        promise = 14;
        ExamSlips x = with(4);
        x.terms(0, 1);
        x.terms(2, 1);
        x.know(0, 0, 2);
        x.know(0, 1, 1);
        x.know(1, 1, 1);
        x.terms(3, 20);
        // 80 of a hundred: 1/4, 20: 1/2
        due("pass(0)", x.pass(0), 3);
        due("pass(1)", x.pass(1), 10);
        x.know(0, 2, 1);
        due("pass(0), the known one is out", x.pass(0), 0);
        x.know(0, 2, 0);
        x.know(1, 2, 1);
        x.terms(3, 100);
        due("pass(0), one liked in the bowl", x.pass(0), 1);
        due("pass(1)", x.pass(1), 1);
        x.terms(0, 2);
        x.know(0, 0, 0);
        x.know(2, 0, 2);
        // 0 first, then 2 or 3
        due("pass(0), the others by lot", x.pass(0), 1);
        due("pass(1)", x.pass(1), 2);
        x.terms(0, 3);
        due("pass(0), all lie there: no leaning", x.pass(0), 1);
        x.terms(0, 1);
        x.know(0, 0, 1);
        due("pass(0), the liked one is half known", x.pass(0), 1);
        due("pass(1)", x.pass(1), 2);
        x.terms(3, 50);
        // by a half 1/2; else 1/3 of a half and 1/3
        due("pass(0)", x.pass(0), 1);
        due("pass(1)", x.pass(1), 2);
        x.know(0, 0, 0);
        x.know(3, 1, 1);
        x.know(3, 0, 1);
        // liked 0 (not), 3 (half): 1/4; else a half, for 2 (well) and 3 of three
        due("pass(0), liked ones of two levels", x.pass(0), 3);
        due("pass(1)", x.pass(1), 8);
        x.know(3, 0, 0);
        x.know(3, 1, 0);
        x.terms(3, 100);
        x.know(0, 1, 0);
        x.terms(0, 2);
        due("pass(0), the liked one is out: no leaning", x.pass(0), 2);
        due("pass(1)", x.pass(1), 3);
    }

    private static void rightOnes() {
        promise = 15;
        ExamSlips x = with(3);
        x.know(0, 0, 1);
        x.know(1, 0, 1);
        x.know(2, 0, 1);
        long[] upper = {1, 3, 3, 1};
        for (int many = 0; many < 4; many++) {
            due("right(" + many + ", 0)", x.right(many, 0), upper[many]);
            due("right(" + many + ", 1)", x.right(many, 1), 8);
        }
        due("right(4, 0)", x.right(4, 0), -1);
        due("right(-1, 0)", x.right(-1, 0), -1);
        due("right(0, 2)", x.right(0, 2), -1);
        due("right(0, -1)", x.right(0, -1), -1);
        x.terms(1, 2);
        due("right(3, 0)", x.right(3, 0), 0);
        due("right(3, 1)", x.right(3, 1), 1);
        due("right(1, 0)", x.right(1, 0), 1);
        due("right(1, 1)", x.right(1, 1), 2);
    }

    private static void meanAndSure() {
        promise = 16;
        ExamSlips x = with(3);
        x.know(0, 0, 2);
        x.know(1, 0, 1);
        x.terms(0, 2);
        // 01: 3/2, 02: 1, 12: 1/2
        due("mean(0)", x.mean(0), 1);
        due("mean(1)", x.mean(1), 1);
        x.know(2, 0, 1);
        // 01: 3/2, 02: 3/2, 12: 1
        due("mean(0)", x.mean(0), 4);
        due("mean(1)", x.mean(1), 3);
        x.terms(0, 3);
        x.know(1, 0, 2);
        due("mean(0), all three", x.mean(0), 5);
        due("mean(1)", x.mean(1), 2);
        x.know(2, 0, 2);
        due("mean(0), all three for sure", x.mean(0), 3);
        due("mean(1)", x.mean(1), 1);
        due("mean(2)", x.mean(2), -1);
        due("mean(-1)", x.mean(-1), -1);
        promise = 17;
        ExamSlips y = with(20);
        y.terms(3, 100);
        y.know(0, 1, 1);
        // of 3 at least 2 among 8 of 20: (28 * 12 + 56) of 1140
        due("sure(3, 0)", y.sure(3, 0), 98);
        due("sure(3, 1)", y.sure(3, 1), 285);
        due("sure(20, 0)", y.sure(20, 0), 1);
        due("sure(20, 1)", y.sure(20, 1), 1);
        due("sure(0, 0)", y.sure(0, 0), 0);
        due("sure(21, 0)", y.sure(21, 0), -1);
        due("sure(-1, 0)", y.sure(-1, 0), -1);
        due("sure(3, 2)", y.sure(3, 2), -1);
        promise = 18;
        due("safe()", y.safe(), 14);
        y.know(19, 2, 1);
        due("safe() of 19", y.safe(), 13);
        due("sure(20, 0) of 19", y.sure(20, 0), -1);
        y.terms(1, 1);
        due("safe(), never passed", y.safe(), -1);
        ExamSlips z = told("chance 99 if level=2");
        due("safe(), never sure", z.safe(), -1);
        z = told("chance 100");
        due("safe(), always sure", z.safe(), 0);
    }

    private static void worth() {
        promise = 19;
        ExamSlips x = with(3);
        x.terms(0, 1);
        x.terms(2, 1);
        x.know(1, 0, 2);
        // 2/3 and 1/3: 666,666 less 333,333
        due("worth(0)", x.worth(0), 333_333);
        // 1/3 and 0
        due("worth(1)", x.worth(1), 333_333);
        x.know(2, 0, 1);
        // 5/6 and 1/2
        due("worth(0)", x.worth(0), 833_333 - 500_000);
        // 3/6 and 1/6: each is cut
        due("worth(1)", x.worth(1), 500_000 - 166_666);
        x.know(2, 2, 1);
        due("worth(2) of one that is out", x.worth(2), 0);
        due("worth(3)", x.worth(3), NOTHING);
        due("worth(-1)", x.worth(-1), NOTHING);
        x.know(0, 1, 1);
        x.terms(3, 100);
        due("worth(0), by a lot that leans", x.worth(0), 1_000_000);
        due("of(0, 2) is as it was", x.of(0, 2), 0);
        ExamSlips y = told("chance 100-level*50");
        y.terms(2, 1);
        y.terms(0, 1);
        due("worth(0), where it harms", y.worth(0), -500_000);
    }

    private static void bestSchemes() {
        promise = 20;
        ExamSlips x = with(3);
        x.terms(2, 1);
        x.terms(0, 1);
        // by 4 hours a level: each level 1 gives 1/6, each level 2 1/3
        due("best(3, 0)", x.best(3, 0), 0);
        due("best(3, 1)", x.best(3, 1), 1);
        due("best(4, 0)", x.best(4, 0), 1);
        due("best(4, 1)", x.best(4, 1), 6);
        due("best(23, 0)", x.best(23, 0), 5);
        due("best(23, 2)", x.best(23, 2), 20);
        due("best(24, 1)", x.best(24, 1), 1);
        due("best(400, 2)", x.best(400, 2), 24);
        due("best(-1, 0)", x.best(-1, 0), -1);
        due("best(401, 0)", x.best(401, 0), -1);
        x.terms(2, 3);
        x.terms(0, 3);
        // all three at least half: 1/8 by 12 hours, 1/2 by 20
        due("best(11, 0), three wanted", x.best(11, 0), 0);
        due("best(11, 2)", x.best(11, 2), 0);
        due("best(12, 1)", x.best(12, 1), 8);
        due("best(20, 1)", x.best(20, 1), 2);
        x.terms(2, 1);
        x.terms(0, 1);
        due("best(4, 3)", x.best(4, 3), -1);
        due("best(4, -1)", x.best(4, -1), -1);
        x.know(0, 2, 1);
        due("best(16, 0) of two", x.best(16, 0), 1);
        due("best(16, 1)", x.best(16, 1), 1);
        x.know(1, 1, 1);
        x.know(1, 0, 2);
        x.terms(3, 100);
        due("best(8, 1): no leaning, nothing known", x.best(8, 1), 2);
        ExamSlips y = told("chance 100-level*10");
        y.terms(2, 1);
        due("best(400, 2), where learning harms", y.best(400, 2), 0);
        due("best(400, 0)", y.best(400, 0), 1);
        ExamSlips z = told("hours 20-helped*19");
        z.question(3, 5);
        z.terms(0, 1);
        z.terms(2, 1);
        // 0 and 2 are of one king: 2 is helped by 0
        due("best(42, 2)", z.best(42, 2), 42);
        due("best(42, 0)", z.best(42, 0), 2);
        z.know(0, 2, 1);
        due("best(42, 2), the helper is out", z.best(42, 2), 40);
        ExamSlips half = told("chance 100 if level=1");
        half.question(0, 3);
        half.terms(0, 1);
        half.terms(2, 1);
        due("best(400, 2), all at level 1 alone", half.best(400, 2), 12);
        due("best(400, 0)", half.best(400, 0), 1);
        ExamSlips late = told("hours 9-helped*8 if level=2");
        late.question(3, 5);
        late.know(1, 2, 1);
        late.terms(0, 1);
        late.terms(2, 1);
        // 4 + 9, then 4 + 1
        due("best(400, 2), help at level 2 alone", late.best(400, 2), 18);
        ExamSlips soon = told("hours 9-helped*8 if level=1");
        soon.question(3, 5);
        soon.know(1, 2, 1);
        soon.terms(0, 1);
        soon.terms(2, 1);
        due("best(400, 2), help at level 1 alone", soon.best(400, 2), 18);
        ExamSlips none = told("hours 20-helped*19");
        none.question(0, 5);
        none.terms(0, 1);
        none.terms(2, 1);
        none.know(0, 2, 1);
        due("best(42, 2), none helps of king 0", none.best(42, 2), 40);
    }

    private static void firstSchemes() {
        promise = 21;
        ExamSlips x = with(3);
        x.terms(2, 1);
        x.terms(0, 1);
        int[] of8 = {0, 0, 2};
        int[] of12 = {0, 1, 2};
        for (int q = 0; q < 3; q++) {
            due("level(8, " + q + ")", x.level(8, q), of8[q]);
            due("level(12, " + q + ")", x.level(12, q), of12[q]);
        }
        due("level(12, 3)", x.level(12, 3), -1);
        due("level(12, -1)", x.level(12, -1), -1);
        due("level(0, 0)", x.level(0, 0), 0);
        due("level(400, 0)", x.level(400, 0), 2);
        due("level(401, 0)", x.level(401, 0), -1);
        due("level(-1, 0)", x.level(-1, 0), -1);
        x.know(2, 2, 1);
        due("level(8, 2) of one that is out", x.level(8, 2), -1);
        due("level(8, 1)", x.level(8, 1), 2);
        ExamSlips y = told("hours 4-helped*3");
        y.question(3, 5);
        y.terms(0, 1);
        y.terms(2, 1);
        // 0 half, then 2 well: 4 + 2 hours
        due("level(6, 0)", y.level(6, 0), 1);
        due("level(6, 1)", y.level(6, 1), 0);
        due("level(6, 2)", y.level(6, 2), 2);
    }

    private static void enough() {
        promise = 22;
        ExamSlips x = with(3);
        x.terms(2, 1);
        x.terms(0, 1);
        due("enough(0)", x.enough(0), 0);
        due("enough(1)", x.enough(1), 4);
        due("enough(16)", x.enough(16), 4);
        due("enough(17)", x.enough(17), 8);
        due("enough(100)", x.enough(100), 24);
        due("enough(101)", x.enough(101), -1);
        due("enough(-1)", x.enough(-1), -1);
        x.terms(2, 2);
        due("enough(1), never", x.enough(1), -1);
        ExamSlips y = told("hours 20");
        for (int i = 0; i < 18; i++) {
            y.question(0, 5);
        }
        y.terms(0, 1);
        y.terms(2, 1);
        due("enough(50), ten well", y.enough(50), 400);
        due("enough(51), beyond 400", y.enough(51), -1);
    }

    private static void lessons() {
        promise = 23;
        ExamSlips x = with(1);
        due("lesson(-1, 0)", x.lesson(-1, 0), -1);
        due("lesson(20, 0)", x.lesson(20, 0), -1);
        due("lesson(20, 1)", x.lesson(20, 1), -1);
        due("lesson(19, 1)", x.lesson(19, 1), -2);
        due("lesson(19, -1)", x.lesson(19, -1), -2);
        for (int i = 1; i <= 120; i++) {
            due("lesson(19, 0)", x.lesson(19, 0), i);
        }
        due("lesson(0, 0) for the 121st", x.lesson(0, 0), -5);
        due("lesson(0, 7) for the 121st", x.lesson(0, 7), -2);
        promise = 24;
        due("clear()", x.clear(), 120);
        due("clear()", x.clear(), 0);
        due("count(3)", x.count(3), 0);
        due("lesson(0, 0)", x.lesson(0, 0), 1);
    }

    private static void daysBehind() {
        promise = 25;
        ExamSlips x = told("hours 2+day-helped;keeps level");
        x.question(3, 1);
        x.terms(6, 7);
        x.lesson(1, 0);
        x.lesson(0, 1);
        x.lesson(0, 1);
        x.lesson(0, 1);
        x.lesson(1, 2);
        due("behind(0, -1): 2, 2 and again 1", x.behind(0, -1), 5);
        due("behind(0, 1)", x.behind(0, 1), 2);
        due("behind(0, 0)", x.behind(0, 0), 0);
        due("behind(1, -1): 3, helped 2", x.behind(1, -1), 5);
        due("behind(1, 2)", x.behind(1, 2), 1);
        due("behind(1, 1)", x.behind(1, 1), 2);
        due("behind(2, 1): 2 days", x.behind(2, 1), 1);
        due("behind(2, 0): 1 day", x.behind(2, 0), 0);
        due("behind(3, 1): 1 day more", x.behind(3, 1), 0);
        due("behind(18, -1)", x.behind(18, -1), 0);
        due("behind(19, 0)", x.behind(19, 0), -1);
        due("behind(-1, 0)", x.behind(-1, 0), -1);
        due("behind(0, 3)", x.behind(0, 3), -1);
        due("behind(0, -2)", x.behind(0, -2), -1);
        x.use(-1);
        due("behind(0, -1), 4 hours each", x.behind(0, -1), 4);
        due("behind(0, 1)", x.behind(0, 1), 1);
        x.know(0, 2, 1);
        x.use(0);
        due("behind(1, -1): one that is out helps, too", x.behind(1, -1), 5);
        ExamSlips y = told("hours 2;keeps 2");
        y.lesson(0, 0);
        y.lesson(1, 0);
        y.lesson(2, 0);
        due("behind(3, 0): again keeps it", y.behind(3, 0), 2);
        due("behind(4, 0)", y.behind(4, 0), 1);
    }

    private static void judging() {
        promise = 26;
        ExamSlips x = told("hours 3 if question=0;hours 1 if question=1;keeps 5");
        due("judge(1)", x.judge(1), -1);
        x.lesson(2, 0);
        x.lesson(2, 0);
        x.lesson(2, 1);
        due("judge(0)", x.judge(0), 1);
        due("judge(1)", x.judge(1), 2);
        x.terms(6, 5);
        due("judge(0), the first and all behind", x.judge(0), 2);
        due("behind(2, 1), dropped though it would fit", x.behind(2, 1), 0);
        due("behind(2, -1)", x.behind(2, -1), 3);
        due("judge(2)", x.judge(2), 1);
        x.terms(6, 16);
        due("judge(2), fell twice and once", x.judge(2), 3);
        x.terms(5, 2);
        due("judge(2), before it all", x.judge(2), 0);
        x.terms(6, 0);
        due("judge(0), days that are not", x.judge(0), 0);
        due("judge(3)", x.judge(3), -1);
        due("judge(-1)", x.judge(-1), -1);
        promise = 27;
        x.terms(6, 16);
        x.terms(5, 3);
        x.know(0, 0, 0);
        due("learn()", x.learn(), 2);
        due("of(0, 2)", x.of(0, 2), 2);
        due("of(1, 2)", x.of(1, 2), 1);
        due("count(3)", x.count(3), 3);
        x.clear();
        due("learn()", x.learn(), 0);
        due("of(0, 2)", x.of(0, 2), 0);
    }

    private static void backwards() {
        promise = 28;
        ExamSlips x = with(3);
        x.terms(0, 1);
        x.terms(2, 1);
        x.terms(5, 3);
        x.terms(6, 4);
        // 12 hours: levels 0, 1, 2, a lesson a day
        due("backward(2, 2)", x.backward(2, 2), 2);
        due("backward(2, 1)", x.backward(2, 1), 1);
        due("backward(1, 1)", x.backward(1, 1), 0);
        due("backward(1, 2), there is none", x.backward(1, 2), -1);
        due("backward(0, 1), there is none", x.backward(0, 1), -1);
        due("backward(-1, 1)", x.backward(-1, 1), 0);
        due("backward(-1, 2)", x.backward(-1, 2), 0);
        x.terms(6, 7);
        // 21 hours: levels 1, 2, 2, but 3 of each day are left over
        due("backward(1, 2)", x.backward(1, 2), 2);
        due("backward(1, 1)", x.backward(1, 1), 1);
        due("backward(2, 2)", x.backward(2, 2), 0);
        due("backward(2, 1), left out", x.backward(2, 1), -1);
        due("backward(0, 1), left out", x.backward(0, 1), -1);
        due("backward(-1, 1)", x.backward(-1, 1), 2);
        x.terms(6, 3);
        due("backward(-1, 1), none of the 2 fits a day", x.backward(-1, 1), 2);
        due("backward(-1, 2)", x.backward(-1, 2), -1);
        x.terms(6, 16);
        due("backward(-1, 2): two days are enough", x.backward(-1, 2), 1);
        due("backward(0, 0)", x.backward(0, 0), -1);
        due("backward(0, 3)", x.backward(0, 3), -1);
        due("backward(-1, 3)", x.backward(-1, 3), -1);
        due("backward(3, 1)", x.backward(3, 1), -1);
        due("backward(-2, 1)", x.backward(-2, 1), -1);
        x.know(2, 2, 1);
        due("backward(2, 1) of one that is out", x.backward(2, 1), -1);
        ExamSlips y = told("hours 5-helped*4");
        y.question(3, 5);
        y.know(1, 2, 1);
        y.terms(0, 1);
        y.terms(2, 1);
        y.terms(5, 1);
        y.terms(6, 12);
        due("backward(2, 1), helped as in the scheme", y.backward(2, 1), 0);
        due("backward(-1, 1)", y.backward(-1, 1), 0);
        ExamSlips z = told("hours 2+day*9");
        z.terms(0, 1);
        z.terms(2, 1);
        z.terms(5, 2);
        z.terms(6, 4);
        due("backward(0, 2), days are not asked of", z.backward(0, 2), 1);
        due("backward(0, 1)", z.backward(0, 1), 1);
        due("backward(1, 2)", z.backward(1, 2), 0);
    }

    private static void friends() {
        promise = 29;
        ExamSlips x = told("hours 2+helped*9;hours 5 if question=1;hours 1 if question=2");
        x.question(3, 1);
        due("friend(0, 99)", x.friend(0, 99), 0);
        due("friend(0, 0)", x.friend(0, 0), 99);
        due("friend(2, 7)", x.friend(2, 7), 0);
        due("friend(2, 100)", x.friend(2, 100), -1);
        due("friend(2, -1)", x.friend(2, -1), -1);
        due("friend(3, 1)", x.friend(3, 1), -1);
        due("friend(-1, 1)", x.friend(-1, 1), -1);
        promise = 30;
        // they take 4, 10 and 2 hours
        due("share(-1)", x.share(-1), 2);
        due("share(0)", x.share(0), 2);
        due("share(1)", x.share(1), -1);
        due("share(2)", x.share(2), 2);
        x.friend(1, 2);
        due("share(2), the lower friend", x.share(2), 1);
        x.friend(1, 10);
        due("share(-1)", x.share(-1), 3);
        due("share(0): the first would leave no room for 1", x.share(0), 2);
        due("share(1)", x.share(1), 1);
        due("share(2)", x.share(2), 2);
        x.know(1, 2, 1);
        due("share(1), though it is out", x.share(1), 1);
        due("share(3)", x.share(3), -1);
        due("share(-2)", x.share(-2), -1);
        ExamSlips tight = told("hours 3 if question<3;hours 2 if question>2;hours 20 if day>0");
        for (int i = 0; i < 4; i++) {
            tight.question(0, 1);
        }
        for (int f = 0; f < 3; f++) {
            tight.friend(f, 10);
        }
        // 6, 6, 6, 4, 4, 4 by 10, 10, 10: each one of both
        due("share(-1), packed without a gap", tight.share(-1), 6);
        int[] pairs = {0, 1, 2, 0, 1, 2};
        for (int q = 0; q < 6; q++) {
            due("share(" + q + ")", tight.share(q), pairs[q]);
        }
        for (int f = 0; f < 3; f++) {
            tight.friend(f, 9);
        }
        due("share(-1), by other hours", tight.share(-1), 4);
        ExamSlips y = with(14);
        y.friend(0, 99);
        y.friend(1, 99);
        due("share(-1), the first twelve alone", y.share(-1), 12);
        due("share(11)", y.share(11), 0);
        due("share(12)", y.share(12), -1);
        y.friend(0, 16);
        y.friend(1, 8);
        due("share(-1)", y.share(-1), 3);
        int[] who = {0, 0, 1, -1, -1, -1, -1, -1, -1, -1, -1, -1, -1, -1};
        for (int q = 0; q < 14; q++) {
            due("share(" + q + ")", y.share(q), who[q]);
        }
    }

    private static void illDays() {
        promise = 31;
        ExamSlips x = with(2);
        x.terms(0, 1);
        x.terms(2, 1);
        x.terms(4, 20);
        // 8 hours: 1/2, 16: 1
        due("ill(2, 8): 64 of 1, 32 of a half", x.ill(2, 8), 800_000);
        due("ill(3, 4): 512 of 3/4, 384 of 1/2, 96 of 1/4", x.ill(3, 4), 600_000);
        due("ill(0, 100)", x.ill(0, 100), 0);
        due("ill(1, 100)", x.ill(1, 100), 800_000);
        x.terms(4, 100);
        due("ill(3, 100)", x.ill(3, 100), 0);
        x.terms(4, 0);
        due("ill(3, 100)", x.ill(3, 100), 1_000_000);
        due("ill(3, 0)", x.ill(3, 0), 0);
        due("ill(4, 1)", x.ill(4, 1), -1);
        due("ill(-1, 1)", x.ill(-1, 1), -1);
        due("ill(1, 101)", x.ill(1, 101), -1);
        due("ill(1, -1)", x.ill(1, -1), -1);
        x.question(0, 1);
        due("ill(1, 8): a third, cut", x.ill(1, 8), 333_333);
    }

    private static void years() {
        promise = 32;
        ExamSlips x = with(3);
        due("year(8)", x.year(8), -1);
        due("year(-1)", x.year(-1), -1);
        due("year(-2147483648)", x.year(Integer.MIN_VALUE), -1);
        due("year(7)", x.year(7), 1);
        due("year(0)", x.year(0), 2);
        for (int i = 3; i <= 40; i++) {
            due("year(1)", x.year(1), i);
        }
        due("year(1) for the 41st", x.year(1), -5);
        due("year(8) for the 41st", x.year(8), -1);
        due("count(4)", x.count(4), 40);
        ExamSlips y = with(20);
        due("year of all", y.year((1 << 20) - 1), 1);
        due("year beyond all", y.year(1 << 20), -1);
    }

    private static void rows() {
        promise = 33;
        ExamSlips x = with(3);
        due("row()", x.row(), -6);
        due("status()", x.status(), -6);
        x.feed(1, 8, 2, -1, 7);
        due("row()", x.row(), 3);
        due("count(6)", x.count(6), 0);
        due("drawn(1, 1)", x.drawn(1, 1), 0);
        due("drawn(0, 1)", x.drawn(0, 1), 0);
        due("count(4)", x.count(4), 3);
        promise = 34;
        due("lost()", x.lost(), 2);
        due("row()", x.row(), -6);
        due("lost() of a refused one", x.lost(), 2);
        x.feed(1, 1, 1, 1, 1);
        x.end(3);
        due("row() of three bytes", x.row(), 0);
        due("lost()", x.lost(), 1);
        for (int i = 0; i < 7; i++) {
            x.feed(1, 1, 1, 1, 1);
        }
        due("row() of 35", x.row(), 35);
        due("lost()", x.lost(), 0);
        x.feed(1, 1, 1, 1, 1);
        due("row() for 2 more", x.row(), 2);
        due("lost()", x.lost(), 3);
        x.feed(1, 1, 1, 1, 1);
        due("row() without room", x.row(), 0);
        due("lost()", x.lost(), 5);
        due("status()", x.status(), 0);
    }

    private static void draws() {
        promise = 35;
        ExamSlips x = with(4);
        due("drawn(0, 1)", x.drawn(0, 1), -1);
        x.year(3);
        x.year(5);
        x.year(4);
        int[] often = {2, 1, 2, 0};
        int[] ago = {1, 2, 0, -1};
        for (int q = 0; q < 4; q++) {
            due("drawn(" + q + ", 0)", x.drawn(q, 0), often[q]);
            due("drawn(" + q + ", 1)", x.drawn(q, 1), ago[q]);
        }
        due("drawn(4, 0)", x.drawn(4, 0), -1);
        due("drawn(-1, 0)", x.drawn(-1, 0), -1);
        due("drawn(0, 2)", x.drawn(0, 2), -1);
        due("drawn(0, -1)", x.drawn(0, -1), -1);
    }

    private static void seldom() {
        promise = 36;
        ExamSlips x = with(3);
        x.terms(0, 2);
        due("seldom(0) without years", x.seldom(0), 1_000_000);
        x.year(3);
        x.year(3);
        x.year(6);
        // by 2/3 a year: none 1/27, at most one 7/27, two 19/27
        x.know(0, 2, 1);
        due("seldom(0)", x.seldom(0), 703_703);
        due("seldom(1)", x.seldom(1), 1_000_000);
        due("seldom(2)", x.seldom(2), 259_259);
        due("seldom(-1)", x.seldom(-1), 3 * 259_259);
        x.terms(0, 3);
        due("seldom(2), all lie there", x.seldom(2), 1_000_000);
        due("seldom(-1)", x.seldom(-1), 1_000_000);
        due("seldom(3)", x.seldom(3), -1);
        due("seldom(-2)", x.seldom(-2), -1);
        ExamSlips y = with(20);
        for (int i = 0; i < 40; i++) {
            y.year(i % 2 == 0 ? 1 : 2);
        }
        y.terms(0, 10);
        // 20 or less of 40 by a half: a half and half of C(40, 20) / 2^40
        due("seldom(0)", y.seldom(0), 562_685);
        due("seldom(5)", y.seldom(5), 0);
        due("seldom(-1)", y.seldom(-1), 0);
        y.terms(0, 1);
        // (19/20)^40
        due("seldom(5)", y.seldom(5), 128_512);
        due("seldom(-1), a million at most", y.seldom(-1), 1_000_000);
        ExamSlips z = with(2);
        z.terms(0, 1);
        z.year(2);
        z.year(2);
        due("seldom(-1), the first is the least", z.seldom(-1), 500_000);
        due("seldom(-1) without questions", new ExamSlips().seldom(-1), -1);
    }

    private static void exams() {
        promise = 37;
        ExamSlips x = with(4);
        x.terms(0, 2);
        x.terms(2, 1);
        due("exam(-1)", x.exam(-1), -1);
        due("exam(1000001)", x.exam(1_000_001), -1);
        due("table(0)", x.table(0), -1);
        // s: 12345, 628841, 621889, 953857 ..
        due("exam(0)", x.exam(0), 0);
        promise = 38;
        due("table(0)", x.table(0), 10);
        due("table(1)", x.table(1), 10);
        due("table(2)", x.table(2), 0);
        due("table(3)", x.table(3), -1);
        due("table(-1)", x.table(-1), -1);
        x.know(1, 0, 2);
        x.know(3, 0, 2);
        x.terms(1, 1);
        due("exam(0)", x.exam(0), 1);
        due("table(1): the lowest of alike ones", x.table(1), 2);
        x.know(1, 0, 1);
        due("exam(0)", x.exam(0), 1);
        due("table(1): the greatest chance", x.table(1), 8);
        due("exam(-1)", x.exam(-1), -1);
        due("table(1) is the latest that was held", x.table(1), 8);
        due("exams(5, 7) are not kept", x.exams(5, 7) >= 0 ? 1 : 0, 1);
        due("table(1)", x.table(1), 8);
        x.know(0, 1, 1);
        // a draw of 100 (45), not below 0; then 628841 % 4 = 1, 621889 % 3 = 1 of 0, 2, 3; then 57
        due("exam(0)", x.exam(0), 0);
        due("table(0), a draw of 100 even by a lean of 0", x.table(0), 6);
        x.terms(3, 46);
        // 45 is below 46: a draw of one liked one, then 621889 % 3 = 1 of 1, 2, 3
        due("exam(0)", x.exam(0), 0);
        due("table(0), the liked one first", x.table(0), 5);
        x.terms(3, 45);
        x.exam(0);
        due("table(0), 45 is not below 45", x.table(0), 6);
        x.know(1, 1, 1);
        x.know(0, 0, 2);
        x.terms(3, 100);
        // 628841 % 2 = 1 of the liked 0, 1; then 621889 % 3 = 1 of 0, 2, 3
        due("exam(0)", x.exam(0), 0);
        due("table(0), the second liked one first", x.table(0), 6);
        x.know(1, 2, 1);
        // 0 alone is liked in the bowl; then 621889 % 2 = 1 of 2, 3
        due("exam(0)", x.exam(0), 1);
        due("table(0), a liked one that is out does not count", x.table(0), 9);
        x.know(1, 2, 0);
        x.terms(0, 4);
        due("exam(0), without draws all lie there", x.exam(0), 1);
        due("table(0)", x.table(0), 15);
        ExamSlips y = told("chance 45 if level=0;chance 46 if level=1");
        due("exam(0): 45 is not below 45; 41 is", y.exam(0), 1);
        due("table(2)", y.table(2), 2);
        y.know(1, 0, 1);
        due("exam(0): 1 first, 45 is below 46; then 41 below 45", y.exam(0), 2);
        due("exam(1000000)", y.exam(1_000_000) >= 0 ? 1 : 0, 1);
        promise = 39;
        ExamSlips sure = told("chance 100");
        due("exams(7, 0), all pass", sure.exams(7, 0), 7);
        due("exams(500, 1000000)", sure.exams(500, 1_000_000), 500);
        due("exams(0, 0)", y.exams(0, 0), -1);
        due("exams(501, 0)", y.exams(501, 0), -1);
        due("exams(1, -1)", y.exams(1, -1), -1);
        due("exams(1, 1000001)", y.exams(1, 1_000_001), -1);
        // s % 100: 45, 41; 89, 57; 60, 50; 73, 41
        due("exams(1, 0)", y.exams(1, 0), 1);
        due("exams(4, 0), one behind the other", y.exams(4, 0), 1);
        y.terms(0, 2);
        due("exams(4, 0), no draws for just as many as lie", y.exams(4, 0), 1);
        due("exam(0)", y.exam(0), 2);
        due("exams(500, 3)", y.exams(500, 3), manyPassed(500, 3));
        due("status()", y.status(), 0);
    }

    /** Two questions, chances 46 and 45 in that order, both wanted. */
    private static int manyPassed(int n, long seed) {
        int passed = 0;
        long s = seed;
        for (int i = 0; i < n; i++) {
            s = (s * 1103 + 12345) % 1_000_003;
            boolean first = s % 100 < 46;
            s = (s * 1103 + 12345) % 1_000_003;
            passed += first && s % 100 < 45 ? 1 : 0;
        }
        return passed;
    }

    private static void images() {
        promise = 40;
        ExamSlips x = told("hours 7");
        due("image(2)", x.image(2), -1);
        due("image(-1)", x.image(-1), -1);
        due("back(0)", x.back(0), -2);
        x.terms(0, 5);
        x.lesson(0, 0);
        x.year(1);
        x.friend(1, 50);
        x.know(1, 0, 2);
        due("image(0)", x.image(0), 0);
        promise = 41;
        due("back(1)", x.back(1), -2);
        due("back(2)", x.back(2), -1);
        due("back(-1)", x.back(-1), -1);
        x.question(1, 1);
        x.know(1, 0, 0);
        x.know(1, 1, 1);
        x.know(0, 2, 1);
        x.terms(0, 6);
        paper(x, "hours 8");
        x.use(1);
        x.lesson(1, 1);
        x.year(2);
        x.friend(1, 60);
        paper(x, "hours ?");
        x.feed(1, 99, 1, 1, 1);
        x.row();
        x.exam(4);
        int lay = x.table(0);
        x.feed(1, 2, 3, 4, 5);
        int refusedBefore = x.count(11);
        due("takes", x.takes(0, 1, 0), 8);
        due("best of 32 hours", x.best(32, 2) > 0 ? 1 : 0, 1);
        due("back(0)", x.back(0), 0);
        int[] due = {2, 2, 1, 1, 1, 1, 20};
        for (int what = 0; what < due.length; what++) {
            due("count(" + what + ")", x.count(what), due[what]);
        }
        due("count(11), not kept", x.count(11), refusedBefore);
        due("count(12)", x.count(12), 0);
        due("takes", x.takes(0, 1, 0), 7);
        due("of(1, 2)", x.of(1, 2), 2);
        due("of(1, 3)", x.of(1, 3), 0);
        due("of(0, 3)", x.of(0, 3), 1);
        due("of(0, 4)", x.of(0, 4), 0);
        due("terms(0, 5)", x.terms(0, 5), 5);
        due("friend(1, 50)", x.friend(1, 50), 50);
        due("fault(), not kept", x.fault(), 6);
        due("lost(), not kept", x.lost(), 1);
        due("table(0), not kept", x.table(0), lay);
        due("drawn(1, 0)", x.drawn(1, 0), 0);
        due("behind(1, 1)", x.behind(1, 1), 0);
        due("share(-1)", x.share(-1), 2);
        x.know(0, 0, 2);
        due("back(0), the image stays", x.back(0), 0);
        due("of(0, 2)", x.of(0, 2), 0);
        x.clear();
        due("image(1)", x.image(1), 0);
        due("back(0)", x.back(0), 0);
        due("count(3)", x.count(3), 1);
        due("back(1)", x.back(1), 0);
        due("count(3)", x.count(3), 0);
        x.question(4, 44);
        due("of(2, 2)", x.of(2, 2), 0);
        due("of(2, 3)", x.of(2, 3), 0);
        due("image(1) again", x.image(1), 0);
        due("back(1)", x.back(1), 0);
        due("count(0)", x.count(0), 3);
    }

    private static void counts() {
        promise = 42;
        ExamSlips x = with(3);
        x.know(0, 0, 1);
        x.know(1, 0, 2);
        x.know(1, 2, 1);
        due("count(0)", x.count(0), 3);
        due("count(1)", x.count(1), 2);
        due("count(5)", x.count(5), 2);
        x.question(9, 9);
        x.terms(9, 9);
        x.friend(9, 9);
        x.exam(-9);
        x.image(9);
        x.back(9);
        x.year(99);
        due("count(7)", x.count(7), 7);
        x.know(9, 0, 0);
        x.use(9);
        x.lesson(0, 9);
        x.back(0);
        due("count(8)", x.count(8), 4);
        due("count(9)", x.count(9), 0);
        for (int i = 0; i < 41; i++) {
            x.year(0);
        }
        due("count(10)", x.count(10), 1);
        x.row();
        x.paper();
        due("count(11)", x.count(11), 2);
        x.of(9, 9);
        x.takes(9, 9, 9);
        x.keeps(9, 9);
        x.chance(9);
        x.pass(9);
        x.best(999, 0);
        x.behind(99, 0);
        x.exams(0, 0);
        x.end(-1);
        x.table(9);
        x.seldom(99);
        due("count(7), NONE is no refusal", x.count(7), 7);
        due("count(8)", x.count(8), 4);
        due("count(13)", x.count(13), -1);
        due("count(-1)", x.count(-1), -1);
    }

    private static void statuses() {
        promise = 43;
        ExamSlips x = new ExamSlips();
        x.question(9, 9);
        due("status() of question", x.status(), -1);
        x.question(0, 9);
        due("status() of question", x.status(), 0);
        x.know(9, 0, 0);
        due("status() of know", x.status(), -2);
        x.of(9, 9);
        x.feed(0, 0, 0, 0, 0);
        x.end(99);
        x.fault();
        x.takes(0, 1, 0);
        x.pass(0);
        x.best(1, 1);
        x.judge(0);
        x.clear();
        x.behind(0, 0);
        x.backward(0, 1);
        x.share(0);
        x.lost();
        x.drawn(0, 0);
        x.seldom(0);
        x.exams(1, 1);
        x.table(0);
        x.count(0);
        due("status(), others do not matter", x.status(), -2);
        x.learn();
        due("status() of learn", x.status(), 0);
        x.use(3);
        due("status() of use", x.status(), -2);
        x.terms(0, 4);
        due("status() of terms", x.status(), 0);
        x.terms(0, 0);
        due("status() of terms", x.status(), -1);
        x.know(0, 0, 1);
        due("status() of know", x.status(), 0);
        x.paper();
        due("status() of paper", x.status(), -6);
        x.use(-1);
        due("status() of use", x.status(), 0);
        x.lesson(0, 5);
        due("status() of lesson", x.status(), -2);
        x.lesson(0, 0);
        due("status() of lesson", x.status(), 0);
        x.friend(7, 0);
        due("status() of friend", x.status(), -1);
        x.friend(0, 0);
        due("status() of friend", x.status(), 0);
        x.row();
        due("status() of row", x.status(), -6);
        x.year(1);
        due("status() of year", x.status(), 0);
        x.year(2);
        due("status() of year", x.status(), -1);
        x.exam(0);
        due("status() of exam", x.status(), 0);
        x.exam(-1);
        due("status() of exam", x.status(), -1);
        x.image(0);
        due("status() of image", x.status(), 0);
        x.back(1);
        due("status() of back", x.status(), -2);
        x.back(0);
        due("status() of back", x.status(), 0);
        x.image(7);
        due("status() of image", x.status(), -1);
        paper(x, "hours 1");
        due("status() of paper", x.status(), 0);
        for (int i = 0; i < 6; i++) {
            paper(x, "hours 1");
        }
        due("status() of paper", x.status(), -5);
    }

    /** No numbers at all may make a call throw or stay. */
    private static void anyNumbers() {
        promise = 0;
        int[] odd = {Integer.MIN_VALUE, Integer.MIN_VALUE + 1, -1000, -2, -1, 0, 1, 2, 3, 19, 20, 31, 32, 400, 1 << 20,
            Integer.MAX_VALUE - 1, Integer.MAX_VALUE};
        for (int questions = 0; questions <= 20; questions += 5) {
            for (int a : odd) {
                for (int b : odd) {
                    ExamSlips x = with(questions);
                    x.know(0, 1, 1);
                    x.feed(a, b, a, b, a);
                    x.end(a);
                    x.paper();
                    x.feed(a, b, a, b, a);
                    x.row();
                    x.question(a, b);
                    x.know(a, b, a);
                    x.know(b, 0, 1);
                    x.of(a, b);
                    x.terms(a, b);
                    x.use(a);
                    x.takes(a, b, a);
                    x.takes(a, 1, b);
                    x.keeps(a, b);
                    x.chance(a);
                    x.pass(a);
                    x.right(a, b);
                    x.mean(a);
                    x.sure(a, b);
                    x.safe();
                    x.worth(a);
                    x.best(a, b);
                    x.level(a, b);
                    x.enough(a);
                    x.lesson(a, b);
                    x.behind(a, b);
                    x.judge(a);
                    x.learn();
                    x.backward(a, b);
                    x.friend(a, b);
                    x.share(a);
                    x.ill(a, b);
                    x.year(a);
                    x.drawn(a, b);
                    x.seldom(a);
                    x.exam(a);
                    x.table(a);
                    x.exams(a, b);
                    x.image(a);
                    x.back(b);
                    x.count(a);
                    x.clear();
                }
            }
        }
    }
}
