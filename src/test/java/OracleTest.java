import java.math.BigInteger;
import java.util.ArrayList;
import java.util.Arrays;
import java.util.HashMap;
import java.util.List;
import java.util.Map;
import java.util.Random;

/**
 * Long runs of calls with made-up numbers, each answer held against a second program that does the
 * document's words in the plainest way: every set, every scheme, every sharing is tried.
 */
public final class OracleTest {
    private static int wrong = 0;
    private static int asked = 0;

    public static void main(String[] args) {
        for (int run = 0; run < 1500 && wrong < 20; run++) {
            new Run(run, 7, 120).go();
        }
        for (int run = 0; run < 30 && wrong < 20; run++) {
            new Run(100_000 + run, 20, 150).go();
        }
        for (int run = 0; run < 40_000 && wrong < 20; run++) {
            readOne(run);
        }
        sharesOfTwelve();
        plansOfTen();
        System.out.println(wrong == 0 ? "OracleTest: " + asked + " answers are as due" : "OracleTest: " + wrong + " wrong");
        if (wrong != 0) {
            System.exit(1);
        }
    }

    /** A text alone, made or spoilt by chance, and what it tells. */
    private static void readOne(int seed) {
        Random random = new Random(seed * 31L + 5);
        ExamSlips x = new ExamSlips();
        Oracle o = new Oracle();
        List<String> log = new ArrayList<>();
        for (int i = 0; i < 3; i++) {
            int king = random.nextInt(5);
            int pages = 1 + random.nextInt(99);
            due(seed, log, "question", x.question(king, pages), o.question(king, pages));
        }
        int[] bytes = new Texts(random).text();
        log.add(Texts.shown(bytes));
        Run.feedBoth(x, o, bytes);
        due(seed, log, "paper", x.paper(), o.paper());
        due(seed, log, "fault", x.fault(), o.fault);
        due(seed, log, "use", x.use(0), o.use(0));
        for (int q = 0; q < 3; q++) {
            for (int level = 0; level < 4; level++) {
                due(seed, log, "takes", x.takes(q, level, 0), o.takes(q, level, 0));
                due(seed, log, "takes helped", x.takes(q, level, 1), o.takes(q, level, 1));
                due(seed, log, "keeps", x.keeps(q, level), o.keeps(q, level));
                due(seed, log, "chance", x.chance(level), o.chance(level));
            }
        }
    }

    /** The largest sharings, against a search over what hours can be left. */
    private static void sharesOfTwelve() {
        for (int seed = 0; seed < 6; seed++) {
            Random random = new Random(seed);
            ExamSlips x = new ExamSlips();
            Oracle o = new Oracle();
            List<String> log = new ArrayList<>();
            for (int i = 0; i < 14; i++) {
                int pages = 1 + random.nextInt(99);
                x.question(0, pages);
                o.question(0, pages);
            }
            int[] bytes = Texts.bytes("hours pages/5; hours question if pages=50");
            Run.feedBoth(x, o, bytes);
            due(seed, log, "paper", x.paper(), o.paper());
            due(seed, log, "use", x.use(0), o.use(0));
            for (int f = 0; f < 3; f++) {
                int hours = 20 + random.nextInt(80);
                x.friend(f, hours);
                o.friend(f, hours);
            }
            for (int q = -1; q < 15; q++) {
                due(seed, log, "share " + q, x.share(q), o.share(q));
            }
        }
    }

    /** Larger bowls with help among kings, every scheme tried for a few numbers of hours. */
    private static void plansOfTen() {
        for (int seed = 0; seed < 10; seed++) {
            Random random = new Random(seed + 77);
            ExamSlips x = new ExamSlips();
            Oracle o = new Oracle();
            List<String> log = new ArrayList<>();
            for (int i = 0; i < 10; i++) {
                int king = random.nextInt(seed % 2 == 0 ? 5 : 3);
                int pages = 1 + random.nextInt(99);
                x.question(king, pages);
                o.question(king, pages);
            }
            Run.feedBoth(x, o, Texts.bytes("hours pages/20+level; hours level if helped=1 and pages>30; chance 40+level*25 if level>0"));
            due(seed, log, "paper", x.paper(), o.paper());
            due(seed, log, "use", x.use(0), o.use(0));
            int lie = 2 + random.nextInt(7);
            x.terms(0, lie);
            o.terms(0, lie);
            int wanted = 1 + random.nextInt(3);
            x.terms(2, wanted);
            o.terms(2, wanted);
            for (int hours = 3 + seed % 4; hours < 60; hours += 9) {
                o.findBest(hours);
                due(seed, log, "best " + hours, x.best(hours, 0), o.bestOdds.part(0));
                due(seed, log, "best " + hours, x.best(hours, 1), o.bestOdds.part(1));
                due(seed, log, "best " + hours, x.best(hours, 2), o.bestHours);
                for (int q = 0; q < 10; q++) {
                    due(seed, log, "level " + hours + " " + q, x.level(hours, q), o.bestRow[q]);
                }
            }
        }
    }

    static void due(int run, List<String> log, String call, long got, long want) {
        asked++;
        if (got != want && wrong < 20) {
            wrong++;
            System.out.println("run " + run + ": " + call + " answered " + got + ", due is " + want);
            if (wrong < 4) {
                for (String line : log) {
                    System.out.println("    " + line);
                }
            }
        }
    }

    /** Texts of the language, most of them right, some with one byte spoilt. */
    static final class Texts {
        private final Random random;
        private int depth = 0;

        Texts(Random random) {
            this.random = random;
        }

        static int[] bytes(String text) {
            int[] bytes = new int[text.length()];
            for (int i = 0; i < bytes.length; i++) {
                bytes[i] = text.charAt(i);
            }
            return bytes;
        }

        static String shown(int[] bytes) {
            StringBuilder shown = new StringBuilder("\"");
            for (int b : bytes) {
                shown.append(b >= 32 && b < 127 ? String.valueOf((char) b) : "\\" + b);
            }
            return shown.append("\" ").append(bytes.length).toString();
        }

        int[] text() {
            StringBuilder text = new StringBuilder();
            int clauses = random.nextInt(40) == 0 ? 11 + random.nextInt(4) : 1 + random.nextInt(4);
            for (int i = 0; i < clauses; i++) {
                if (i > 0) {
                    text.append(blank()).append(';').append(blank());
                }
                text.append(clauses > 10 ? "keeps " + i + (random.nextBoolean() ? " if level=1" : "") : clause());
            }
            if (random.nextInt(60) == 0) {
                text = new StringBuilder("hours 1");
                int more = 47 + random.nextInt(5);
                for (int i = 0; i < more; i++) {
                    text.append("+*-/".charAt(random.nextInt(4))).append(random.nextBoolean() ? "level" : "7");
                }
            }
            if (random.nextInt(60) == 0) {
                text = brackets();
            }
            String made = text.toString();
            if (random.nextInt(3) == 0 && made.length() > 0) {
                made = spoilt(made);
            }
            if (random.nextInt(4) == 0) {
                made = made + blank() + blank();
            }
            return bytes(made.length() > 400 ? made.substring(0, 400) : made);
        }

        private StringBuilder brackets() {
            int round = random.nextInt(10);
            int square = 6 + random.nextInt(4) - round / 2;
            StringBuilder text = new StringBuilder("chance 3 if ");
            for (int i = 0; i < round; i++) {
                text.append(random.nextInt(3) == 0 ? "not not(" : "(");
            }
            for (int i = 0; i < square; i++) {
                text.append('[');
            }
            text.append("level");
            for (int i = 0; i < square; i++) {
                text.append("+0]");
            }
            text.append("=1");
            for (int i = 0; i < round; i++) {
                text.append(" or 1=2)");
            }
            return text;
        }

        private String spoilt(String text) {
            int at = random.nextInt(text.length() + 1);
            switch (random.nextInt(5)) {
                case 0: return text.substring(0, at);
                case 1: return text.substring(0, at) + text.substring(Math.min(text.length(), at + 1));
                case 2: return text.substring(0, at) + (char) random.nextInt(256) + text.substring(at);
                case 3: return text.substring(0, at) + ";([])<>=+-*/ 0az".charAt(random.nextInt(16)) + text.substring(at);
                default:
                    String[] words = {" if ", " and ", " or ", " not ", " level ", " hours ", " 1000 ", " 1001 ", " 0001 "};
                    return text.substring(0, at) + words[random.nextInt(words.length)] + text.substring(at);
            }
        }

        private String blank() {
            return random.nextInt(4) == 0 ? "  " : random.nextBoolean() ? " " : "";
        }

        private String clause() {
            String[] heads = {"hours", "hours", "keeps", "chance"};
            String text = heads[random.nextInt(4)] + " " + sum();
            return random.nextInt(5) < 3 ? text + " if " + test() : text;
        }

        private String test() {
            StringBuilder text = new StringBuilder(plain());
            while (random.nextInt(5) < 2) {
                text.append(random.nextBoolean() ? " and " : " or ").append(plain());
            }
            return text.toString();
        }

        private String plain() {
            int kind = random.nextInt(8);
            if (kind == 0 || depth > 6) {
                return "not " + (depth > 6 ? "1=1" : plain());
            }
            if (kind == 1) {
                depth++;
                String text = "(" + blank() + test() + blank() + ")";
                depth--;
                return text;
            }
            return sum() + blank() + "<>=".charAt(random.nextInt(3)) + blank() + sum();
        }

        private String sum() {
            StringBuilder text = new StringBuilder(part());
            while (random.nextInt(5) < 2) {
                text.append(blank()).append("+-*/".charAt(random.nextInt(4))).append(blank()).append(part());
            }
            return text.toString();
        }

        private String part() {
            int kind = random.nextInt(9);
            if (kind == 0 && depth < 7) {
                depth++;
                String text = "[" + sum() + "]";
                depth--;
                return text;
            }
            if (kind < 4) {
                int[] some = {0, 1, 2, 3, 5, 10, 50, 100, 999, 1000};
                return String.valueOf(some[random.nextInt(some.length)]);
            }
            String[] words = {"king", "pages", "level", "helped", "liked", "day", "question"};
            return words[random.nextInt(words.length)];
        }
    }

    /** One run of calls on both. */
    static final class Run {
        private final int number;
        private final int questionsMost;
        private final int calls;
        private final Random random;
        private final ExamSlips x = new ExamSlips();
        private final Oracle o = new Oracle();
        private final List<String> log = new ArrayList<>();

        Run(int number, int questionsMost, int calls) {
            this.number = number;
            this.questionsMost = questionsMost;
            this.calls = calls;
            this.random = new Random(number * 7919L + 13);
        }

        static void feedBoth(ExamSlips x, Oracle o, int[] bytes) {
            for (int at = 0; at < bytes.length; at += 20) {
                int[] n = new int[5];
                for (int i = 0; i < 20; i++) {
                    n[i / 4] = n[i / 4] << 8 | (at + i < bytes.length ? bytes[at + i] : 0);
                }
                int mine = x.feed(n[0], n[1], n[2], n[3], n[4]);
                int its = o.feed(n[0], n[1], n[2], n[3], n[4]);
                due(-1, List.of(), "feed", mine, its);
            }
            due(-1, List.of(), "end", x.end(bytes.length), o.end(bytes.length));
        }

        private int number(int least, int most) {
            return random.nextInt(12) == 0 ? least - 2 + random.nextInt(most - least + 5)
                    : least + random.nextInt(most - least + 1);
        }

        private int aQuestion() {
            return random.nextInt(15) == 0 ? random.nextInt(30) - 5 : o.questions() == 0 ? 0 : random.nextInt(o.questions());
        }

        private int aQuestionOrNone() {
            return random.nextInt(4) == 0 ? -1 : aQuestion();
        }

        private void check(String call, long got, long want) {
            log.add(call + " -> " + got);
            due(number, log, call, got, want);
        }

        void go() {
            int begin = 1 + random.nextInt(questionsMost);
            for (int i = 0; i < begin; i++) {
                newQuestion();
            }
            if (random.nextInt(4) != 0) {
                newPaper();
                check("use(0)", x.use(0), o.use(0));
            }
            for (int i = 0; i < calls; i++) {
                if (random.nextInt(2) == 0) {
                    change();
                } else {
                    look();
                }
                check("status", x.status(), o.status);
            }
            for (int what = -1; what < 14; what++) {
                check("count(" + what + ")", x.count(what), o.count(what));
            }
        }

        private void newQuestion() {
            if (o.questions() >= questionsMost && questionsMost < 20) {
                return;
            }
            int king = number(0, 4);
            int pages = number(1, 99);
            check("question(" + king + ", " + pages + ")", x.question(king, pages), o.question(king, pages));
        }

        private void newPaper() {
            int[] bytes = new Texts(random).text();
            log.add("text " + Texts.shown(bytes));
            feedBoth(x, o, bytes);
            check("paper()", x.paper(), o.paper());
            check("fault()", x.fault(), o.fault);
        }

        private void change() {
            switch (random.nextInt(17)) {
                case 0:
                    newQuestion();
                    break;
                case 1: case 2: case 3: case 4: {
                    int q = aQuestion();
                    int what = random.nextInt(5) < 3 ? 0 : number(0, 2);
                    int value = number(0, what == 0 ? 2 : 1);
                    check("know(" + q + ", " + what + ", " + value + ")", x.know(q, what, value), o.know(q, what, value));
                    break;
                }
                case 5: case 6: {
                    int what = number(0, 6);
                    int[] least = {1, 1, 1, 0, 0, 1, 0};
                    int[] most = {10, 3, 3, 100, 100, 20, 16};
                    boolean there = what >= 0 && what < 7;
                    int value = there ? number(least[what], what == 0 && random.nextBoolean() ? 4 : most[what]) : 1;
                    check("terms(" + what + ", " + value + ")", x.terms(what, value), o.terms(what, value));
                    break;
                }
                case 7:
                    newPaper();
                    break;
                case 8: {
                    int paper = random.nextInt(8) - 2;
                    check("use(" + paper + ")", x.use(paper), o.use(paper));
                    break;
                }
                case 9: case 10: case 11: {
                    int day = random.nextBoolean() ? number(0, 3) : number(0, 19);
                    int q = aQuestion();
                    int times = 1 + random.nextInt(4);
                    for (int i = 0; i < times; i++) {
                        check("lesson(" + day + ", " + q + ")", x.lesson(day, q), o.lesson(day, q));
                    }
                    break;
                }
                case 12:
                    if (random.nextInt(5) == 0) {
                        check("clear()", x.clear(), o.clear());
                    } else {
                        check("learn()", x.learn(), o.learn());
                    }
                    break;
                case 13: {
                    int friend = number(0, 2);
                    int hours = random.nextBoolean() ? number(0, 99) : number(0, 30);
                    check("friend(" + friend + ", " + hours + ")", x.friend(friend, hours), o.friend(friend, hours));
                    break;
                }
                case 14: {
                    int bits = random.nextInt(1 << Math.min(20, o.questions() + random.nextInt(2)));
                    if (random.nextInt(3) == 0) {
                        check("year(" + bits + ")", x.year(bits), o.year(bits));
                    } else {
                        newRow();
                    }
                    break;
                }
                default: {
                    int k = number(0, 1);
                    if (random.nextBoolean()) {
                        check("image(" + k + ")", x.image(k), o.image(k));
                    } else {
                        check("back(" + k + ")", x.back(k), o.back(k));
                    }
                }
            }
        }

        private void newRow() {
            int[] bytes = new int[random.nextInt(60)];
            for (int i = 0; i < bytes.length; i++) {
                int bits = random.nextInt(1 << o.questions());
                bytes[i] = random.nextInt(20) == 0 ? random.nextInt(256) : bits >>> 8 * (3 - i % 4) & 255;
            }
            log.add("row of " + Arrays.toString(bytes));
            feedBoth(x, o, bytes);
            check("row()", x.row(), o.row());
            check("lost()", x.lost(), o.lost);
        }

        private void look() {
            boolean small = o.bowl().size() <= 7;
            switch (random.nextInt(small ? 22 : 16)) {
                case 0: {
                    int q = aQuestion();
                    for (int what = -1; what < 6; what++) {
                        check("of(" + q + ", " + what + ")", x.of(q, what), o.of(q, what));
                    }
                    break;
                }
                case 1: case 2: {
                    int part = number(0, 1);
                    check("pass(" + part + ")", x.pass(part), o.pass(part));
                    break;
                }
                case 3: {
                    int many = number(0, 3);
                    int part = number(0, 1);
                    check("right(" + many + ", " + part + ")", x.right(many, part), o.right(many, part));
                    break;
                }
                case 4: {
                    int part = number(0, 1);
                    check("mean(" + part + ")", x.mean(part), o.mean(part));
                    break;
                }
                case 5: {
                    int many = number(0, o.questions());
                    int part = number(0, 1);
                    check("sure(" + many + ", " + part + ")", x.sure(many, part), o.sure(many, part));
                    break;
                }
                case 6: {
                    int q = aQuestion();
                    check("worth(" + q + ")", x.worth(q), o.worth(q));
                    check("safe()", x.safe(), o.safe());
                    break;
                }
                case 7: case 8: {
                    int day = number(0, 19);
                    int q = aQuestionOrNone();
                    check("behind(" + day + ", " + q + ")", x.behind(day, q), o.behind(day, q));
                    break;
                }
                case 9: {
                    int what = number(0, 2);
                    check("judge(" + what + ")", x.judge(what), o.judge(what));
                    break;
                }
                case 10: {
                    int q = aQuestion();
                    int what = number(0, 1);
                    check("drawn(" + q + ", " + what + ")", x.drawn(q, what), o.drawn(q, what));
                    q = aQuestionOrNone();
                    check("seldom(" + q + ")", x.seldom(q), o.seldom(q));
                    break;
                }
                case 11: {
                    int seed = number(0, 1_000_000);
                    check("exam(" + seed + ")", x.exam(seed), o.exam(seed));
                    break;
                }
                case 12: {
                    int what = number(0, 2);
                    check("table(" + what + ")", x.table(what), o.table(what));
                    break;
                }
                case 13: {
                    int n = random.nextInt(10) == 0 ? number(1, 500) : number(1, 20);
                    int seed = number(0, 1_000_000);
                    check("exams(" + n + ", " + seed + ")", x.exams(n, seed), o.exams(n, seed));
                    break;
                }
                case 14: {
                    int what = number(0, 12);
                    check("count(" + what + ")", x.count(what), o.count(what));
                    break;
                }
                case 15: {
                    int q = aQuestionOrNone();
                    if (o.questions() <= 7) {
                        check("share(" + q + ")", x.share(q), o.share(q));
                    }
                    int level = number(1, 3);
                    check("takes", x.takes(q, level, 1), o.takes(q, level, 1));
                    check("keeps", x.keeps(q, level), o.keeps(q, level));
                    check("chance", x.chance(level), o.chance(level));
                    break;
                }
                case 16: case 17: {
                    int hours = random.nextInt(3) == 0 ? number(0, 400) : number(0, 40);
                    int part = number(0, 2);
                    check("best(" + hours + ", " + part + ")", x.best(hours, part), o.best(hours, part));
                    break;
                }
                case 18: {
                    int hours = random.nextInt(3) == 0 ? number(0, 400) : number(0, 40);
                    for (int q = -1; q <= o.questions(); q++) {
                        check("level(" + hours + ", " + q + ")", x.level(hours, q), o.level(hours, q));
                    }
                    break;
                }
                case 19: {
                    int hundredths = number(0, 100);
                    check("enough(" + hundredths + ")", x.enough(hundredths), o.enough(hundredths));
                    break;
                }
                case 20: {
                    int q = aQuestionOrNone();
                    int level = number(1, 2);
                    check("backward(" + q + ", " + level + ")", x.backward(q, level), o.backward(q, level));
                    break;
                }
                default: {
                    int days = number(0, 3);
                    int hours = random.nextBoolean() ? number(0, 100) : number(0, 15);
                    check("ill(" + days + ", " + hours + ")", x.ill(days, hours), o.ill(days, hours));
                }
            }
        }
    }

    static final class Fault extends RuntimeException {
        private static final long serialVersionUID = 1;
        final int place;

        Fault(int place) {
            this.place = place;
        }
    }

    static final class Broken extends RuntimeException {
        private static final long serialVersionUID = 1;
    }

    interface Node {
        long value(Map<String, Integer> words);
    }

    record Clause(String head, Node sum, Node test) {
    }

    record Token(String text, int place) {
    }

    /** Reads a text into a tree. */
    static final class Parser {
        private final List<Token> tokens = new ArrayList<>();
        private final int length;
        private int at = 0;
        private int parts = 0;
        private int open = 0;

        Parser(int[] bytes) {
            length = bytes.length;
            StringBuilder text = new StringBuilder();
            for (int b : bytes) {
                text.append((char) b);
            }
            java.util.regex.Matcher m = java.util.regex.Pattern.compile("[a-z]+|[0-9]+|[^ ]", java.util.regex.Pattern.DOTALL).matcher(text);
            while (m.find()) {
                tokens.add(new Token(m.group(), m.start()));
            }
        }

        private String seen() {
            return at < tokens.size() ? tokens.get(at).text() : "";
        }

        private Fault fault() {
            return new Fault(at < tokens.size() ? tokens.get(at).place() : length);
        }

        List<Clause> clauses() {
            List<Clause> all = new ArrayList<>();
            do {
                if (!all.isEmpty()) {
                    at++;
                }
                if (all.size() == 12 || !List.of("hours", "keeps", "chance").contains(seen())) {
                    throw fault();
                }
                String head = seen();
                at++;
                Node sum = sum();
                Node test = null;
                if (seen().equals("if")) {
                    at++;
                    test = test();
                }
                all.add(new Clause(head, sum, test));
            } while (seen().equals(";"));
            if (at < tokens.size()) {
                throw fault();
            }
            return all;
        }

        private Node test() {
            Node left = both();
            while (seen().equals("or")) {
                at++;
                Node a = left;
                Node b = both();
                left = w -> a.value(w) != 0 ? 1 : b.value(w);
            }
            return left;
        }

        private Node both() {
            Node left = plain();
            while (seen().equals("and")) {
                at++;
                Node a = left;
                Node b = plain();
                left = w -> a.value(w) == 0 ? 0 : b.value(w);
            }
            return left;
        }

        private Node plain() {
            if (seen().equals("not")) {
                at++;
                Node a = plain();
                return w -> 1 - a.value(w);
            }
            if (seen().equals("(")) {
                openBracket();
                Node a = test();
                closeBracket(")");
                return a;
            }
            Node a = sum();
            String sign = seen();
            if (!List.of("<", ">", "=").contains(sign)) {
                throw fault();
            }
            at++;
            Node b = sum();
            return w -> {
                int c = Long.compare(a.value(w), b.value(w));
                return (sign.equals("<") ? c < 0 : sign.equals(">") ? c > 0 : c == 0) ? 1 : 0;
            };
        }

        private void openBracket() {
            if (open == 8) {
                throw fault();
            }
            open++;
            at++;
        }

        private void closeBracket(String sign) {
            if (!seen().equals(sign)) {
                throw fault();
            }
            open--;
            at++;
        }

        private static long whole(BigInteger made) {
            if (made.abs().compareTo(BigInteger.valueOf(1_000_000_000)) > 0) {
                throw new Broken();
            }
            return made.longValue();
        }

        private Node sum() {
            Node left = term();
            while (seen().equals("+") || seen().equals("-")) {
                boolean plus = seen().equals("+");
                at++;
                Node a = left;
                Node b = term();
                left = w -> {
                    BigInteger l = BigInteger.valueOf(a.value(w));
                    BigInteger r = BigInteger.valueOf(b.value(w));
                    return whole(plus ? l.add(r) : l.subtract(r));
                };
            }
            return left;
        }

        private Node term() {
            Node left = part();
            while (seen().equals("*") || seen().equals("/")) {
                boolean times = seen().equals("*");
                at++;
                Node a = left;
                Node b = part();
                left = w -> {
                    BigInteger l = BigInteger.valueOf(a.value(w));
                    BigInteger r = BigInteger.valueOf(b.value(w));
                    if (!times && r.signum() == 0) {
                        throw new Broken();
                    }
                    return whole(times ? l.multiply(r) : l.divide(r));
                };
            }
            return left;
        }

        private Node part() {
            String word = seen();
            if (word.equals("[")) {
                openBracket();
                Node a = sum();
                closeBracket("]");
                return a;
            }
            boolean number = !word.isEmpty() && Character.isDigit(word.charAt(0)) && word.charAt(0) < 128;
            boolean known = List.of("king", "pages", "level", "helped", "liked", "day", "question").contains(word);
            if (!number && !known || number && new BigInteger(word).compareTo(BigInteger.valueOf(1000)) > 0) {
                throw fault();
            }
            parts++;
            if (parts > 50) {
                throw fault();
            }
            at++;
            if (number) {
                long value = Long.parseLong(new BigInteger(word).toString());
                return w -> value;
            }
            return w -> w.getOrDefault(word, 0);
        }
    }

    record Odds(BigInteger upper, BigInteger lower) {
        static Odds of(long upper, long lower) {
            return new Odds(BigInteger.valueOf(upper), BigInteger.valueOf(lower)).lowest();
        }

        Odds lowest() {
            BigInteger g = upper.gcd(lower);
            return new Odds(upper.divide(g), lower.divide(g));
        }

        Odds plus(Odds o) {
            return new Odds(upper.multiply(o.lower).add(o.upper.multiply(lower)), lower.multiply(o.lower)).lowest();
        }

        Odds times(Odds o) {
            return new Odds(upper.multiply(o.upper), lower.multiply(o.lower)).lowest();
        }

        int compare(Odds o) {
            return upper.multiply(o.lower).compareTo(o.upper.multiply(lower));
        }

        long part(int part) {
            return part == 0 ? upper.longValueExact() : part == 1 ? lower.longValueExact() : -1;
        }

        int millionths() {
            return upper.multiply(BigInteger.valueOf(1_000_000)).divide(lower).intValueExact();
        }
    }

    static final class Slip implements Cloneable {
        int king;
        int pages;
        int known;
        int liked;
        int out;

        Slip copy() {
            Slip s = new Slip();
            s.king = king;
            s.pages = pages;
            s.known = known;
            s.liked = liked;
            s.out = out;
            return s;
        }
    }

    static final class Kept {
        List<Slip> slips = new ArrayList<>();
        int[] terms = {8, 3, 2, 0, 10, 19, 6};
        List<List<Clause>> papers = new ArrayList<>();
        int use = -1;
        List<int[]> lessons = new ArrayList<>();
        int[] friends = new int[3];
        List<Integer> years = new ArrayList<>();

        Kept copy() {
            Kept k = new Kept();
            for (Slip s : slips) {
                k.slips.add(s.copy());
            }
            k.terms = terms.clone();
            k.papers.addAll(papers);
            k.use = use;
            k.lessons.addAll(lessons);
            k.friends = friends.clone();
            k.years.addAll(years);
            return k;
        }
    }

    /** The document's words, done plainly. */
    static final class Oracle {
        Kept k = new Kept();
        Kept[] images = new Kept[2];
        List<Integer> tape = new ArrayList<>();
        int fault = -1;
        int lost = 0;
        int[] exam = null;
        int[] refused = new int[7];
        int status = 0;

        int questions() {
            return k.slips.size();
        }

        private int no(int by) {
            status = by;
            refused[-by]++;
            return by;
        }

        private int yes(int answer) {
            status = 0;
            return answer;
        }

        private boolean there(int q) {
            return q >= 0 && q < k.slips.size();
        }

        List<Integer> bowl() {
            List<Integer> bowl = new ArrayList<>();
            for (int q = 0; q < k.slips.size(); q++) {
                if (k.slips.get(q).out == 0) {
                    bowl.add(q);
                }
            }
            return bowl;
        }

        int question(int king, int pages) {
            if (king < 0 || king > 4 || pages < 1 || pages > 99) {
                return no(-1);
            }
            if (k.slips.size() == 20) {
                return no(-5);
            }
            Slip s = new Slip();
            s.king = king;
            s.pages = pages;
            k.slips.add(s);
            return yes(k.slips.size() - 1);
        }

        int know(int q, int what, int value) {
            if (what < 0 || what > 2 || value < 0 || value > (what == 0 ? 2 : 1)) {
                return no(-1);
            }
            if (!there(q)) {
                return no(-2);
            }
            int was = of(q, what + 2);
            Slip s = k.slips.get(q);
            if (what == 0) {
                s.known = value;
            } else if (what == 1) {
                s.liked = value;
            } else {
                s.out = value;
            }
            return yes(was);
        }

        int of(int q, int what) {
            if (!there(q) || what < 0 || what > 4) {
                return -1;
            }
            Slip s = k.slips.get(q);
            return new int[] {s.king, s.pages, s.known, s.liked, s.out}[what];
        }

        int terms(int what, int value) {
            int[][] range = {{1, 10}, {1, 3}, {1, 3}, {0, 100}, {0, 100}, {1, 20}, {0, 16}};
            if (what < 0 || what > 6 || value < range[what][0] || value > range[what][1]) {
                return no(-1);
            }
            int was = k.terms[what];
            k.terms[what] = value;
            return yes(was);
        }

        int feed(int... numbers) {
            if (tape.size() + 20 > 400) {
                return -1;
            }
            for (int n : numbers) {
                for (byte b : BigInteger.valueOf((n & 0xffffffffL) | 1L << 40).toByteArray().length == 6
                        ? Arrays.copyOfRange(BigInteger.valueOf((n & 0xffffffffL) | 1L << 40).toByteArray(), 2, 6) : new byte[0]) {
                    tape.add(b & 255);
                }
            }
            return tape.size();
        }

        int end(int n) {
            if (n < 0 || n > tape.size()) {
                return -1;
            }
            tape = new ArrayList<>(tape.subList(0, n));
            return n;
        }

        private int[] takeTape() {
            int[] bytes = tape.stream().mapToInt(Integer::intValue).toArray();
            tape.clear();
            return bytes;
        }

        int paper() {
            int[] bytes = takeTape();
            if (k.papers.size() == 6) {
                return no(-5);
            }
            try {
                k.papers.add(new Parser(bytes).clauses());
                fault = -1;
            } catch (Fault f) {
                fault = f.place;
                return no(-6);
            }
            return yes(k.papers.size() - 1);
        }

        int use(int paper) {
            if (paper != -1 && (paper < 0 || paper >= k.papers.size())) {
                return no(-2);
            }
            int was = k.use;
            k.use = paper;
            return yes(was);
        }

        private int told(String head, Map<String, Integer> words, int without, int least, int most) {
            long told = without;
            if (k.use >= 0) {
                for (Clause c : k.papers.get(k.use)) {
                    try {
                        if (c.head().equals(head) && (c.test() == null || c.test().value(words) == 1)) {
                            told = Math.max(least, Math.min(most, c.sum().value(words)));
                        }
                    } catch (Broken b) {
                        continue;
                    }
                }
            }
            return (int) told;
        }

        private Map<String, Integer> words(int q, int level) {
            Slip s = k.slips.get(q);
            Map<String, Integer> words = new HashMap<>();
            words.put("king", s.king);
            words.put("pages", s.pages);
            words.put("liked", s.liked);
            words.put("question", q);
            words.put("level", level);
            return words;
        }

        private int hours(int q, int level, boolean helped, int day) {
            if (level == 3) {
                return 1;
            }
            Map<String, Integer> words = words(q, level);
            words.put("helped", helped ? 1 : 0);
            words.put("day", day);
            return told("hours", words, 4, 1, 20);
        }

        int takes(int q, int level, int helped) {
            if (!there(q) || level < 1 || level > 3 || helped < 0 || helped > 1) {
                return -1;
            }
            return hours(q, level, helped == 1, 0);
        }

        int keeps(int q, int level) {
            if (!there(q) || level < 1 || level > 2) {
                return -1;
            }
            return told("keeps", words(q, level), 10, 1, 30);
        }

        int chance(int level) {
            if (level < 0 || level > 2) {
                return -1;
            }
            return told("chance", Map.of("level", level), new int[] {0, 50, 100}[level], 0, 100);
        }

        /** Odds of just 0 .. 3 right ones, by levels of those in the bowl and whether each is liked. */
        private Odds[] odds(List<Integer> levels, List<Integer> liked, int lean) {
            int n = levels.size();
            int lie = Math.min(k.terms[0], n);
            int[] chances = {chance(0), chance(1), chance(2)};
            Odds[] all = none();
            long sets = 0;
            for (int set = 0; set < 1 << n; set++) {
                sets += Integer.bitCount(set) == lie ? 1 : 0;
            }
            List<Integer> fans = new ArrayList<>();
            for (int i = 0; i < n; i++) {
                if (liked.get(i) == 1) {
                    fans.add(i);
                }
            }
            boolean leans = !fans.isEmpty() && k.terms[0] < n;
            Odds straight = leans ? Odds.of(100 - lean, 100 * sets) : Odds.of(1, sets);
            // how many sets of lie with a given first one there are
            long setsWith = sets * lie / Math.max(1, n);
            Map<String, Odds[]> seen = new HashMap<>();
            Map<String, BigInteger[]> weight = new HashMap<>();
            for (int set = 0; set < 1 << n; set++) {
                if (Integer.bitCount(set) != lie) {
                    continue;
                }
                int fansIn = 0;
                for (int f : fans) {
                    fansIn += set >>> f & 1;
                }
                List<Integer> lying = new ArrayList<>();
                for (int i = 0; i < n; i++) {
                    if ((set >>> i & 1) == 1) {
                        lying.add(chances[levels.get(i)]);
                    }
                }
                lying.sort((a, b) -> b - a);
                String key = lying.toString();
                if (!seen.containsKey(key)) {
                    seen.put(key, answered(lying));
                    weight.put(key, new BigInteger[] {BigInteger.ZERO, BigInteger.ZERO});
                }
                BigInteger[] w = weight.get(key);
                w[0] = w[0].add(BigInteger.ONE);
                w[1] = w[1].add(BigInteger.valueOf(fansIn));
            }
            for (String key : seen.keySet()) {
                BigInteger[] w = weight.get(key);
                Odds of = straight.times(new Odds(w[0], BigInteger.ONE));
                if (leans) {
                    of = of.plus(Odds.of(lean, 100L * fans.size() * setsWith).times(new Odds(w[1], BigInteger.ONE)));
                }
                for (int many = 0; many < 4; many++) {
                    all[many] = all[many].plus(of.times(seen.get(key)[many]));
                }
            }
            return all;
        }

        private static Odds[] none() {
            Odds zero = Odds.of(0, 1);
            return new Odds[] {zero, zero, zero, zero};
        }

        private Odds[] answered(List<Integer> chances) {
            Odds[] of = none();
            int answers = Math.min(k.terms[1], chances.size());
            for (int set = 0; set < 1 << answers; set++) {
                Odds one = Odds.of(1, 1);
                for (int i = 0; i < answers; i++) {
                    int c = chances.get(i);
                    one = one.times(Odds.of((set >>> i & 1) == 1 ? c : 100 - c, 100));
                }
                of[Integer.bitCount(set)] = of[Integer.bitCount(set)].plus(one);
            }
            return of;
        }

        private Odds passes(Odds[] odds) {
            Odds p = Odds.of(0, 1);
            for (int many = k.terms[2]; many < 4; many++) {
                p = p.plus(odds[many]);
            }
            return p;
        }

        private Odds[] known(int asIf, int level) {
            List<Integer> levels = new ArrayList<>();
            List<Integer> liked = new ArrayList<>();
            for (int q : bowl()) {
                levels.add(q == asIf ? level : k.slips.get(q).known);
                liked.add(k.slips.get(q).liked);
            }
            return odds(levels, liked, k.terms[3]);
        }

        long pass(int part) {
            return part < 0 || part > 1 ? -1 : passes(known(-1, 0)).part(part);
        }

        long right(int many, int part) {
            return many < 0 || many > 3 || part < 0 || part > 1 ? -1 : known(-1, 0)[many].part(part);
        }

        long mean(int part) {
            if (part < 0 || part > 1) {
                return -1;
            }
            Odds[] o = known(-1, 0);
            return o[1].plus(o[2]).plus(o[2]).plus(o[3]).plus(o[3]).plus(o[3]).part(part);
        }

        private Odds sureOf(int many) {
            List<Integer> levels = new ArrayList<>();
            List<Integer> liked = new ArrayList<>();
            for (int i = 0; i < bowl().size(); i++) {
                levels.add(i < many ? 2 : 0);
                liked.add(0);
            }
            return passes(odds(levels, liked, 0));
        }

        long sure(int many, int part) {
            return many < 0 || many > bowl().size() || part < 0 || part > 1 ? -1 : sureOf(many).part(part);
        }

        int safe() {
            for (int many = 0; many <= bowl().size(); many++) {
                if (sureOf(many).compare(Odds.of(1, 1)) == 0) {
                    return many;
                }
            }
            return -1;
        }

        int worth(int q) {
            if (!there(q)) {
                return -10_000_000;
            }
            if (k.slips.get(q).out == 1) {
                return 0;
            }
            return passes(known(q, 2)).millionths() - passes(known(q, 0)).millionths();
        }

        private int[] bestRow;
        private Odds bestOdds;
        private int bestHours;

        private boolean[] helps(int[] row) {
            List<Integer> bowl = bowl();
            boolean[] helped = new boolean[row.length];
            for (int i = 0; i < row.length; i++) {
                for (int j = 0; j < i; j++) {
                    int king = k.slips.get(bowl.get(i)).king;
                    helped[i] |= king != 0 && king == k.slips.get(bowl.get(j)).king && row[j] > 0;
                }
            }
            return helped;
        }

        /** Every scheme, in the order of the rows: the first that is better stays. */
        private void findBest(int hours) {
            List<Integer> bowl = bowl();
            int n = bowl.size();
            int[][] price = new int[n][4];
            for (int i = 0; i < n; i++) {
                for (int h = 0; h < 2; h++) {
                    price[i][h * 2] = hours(bowl.get(i), 1, h == 1, 0);
                    price[i][h * 2 + 1] = hours(bowl.get(i), 2, h == 1, 0);
                }
            }
            Map<Integer, Odds> seen = new HashMap<>();
            bestRow = null;
            int schemes = (int) Math.round(Math.pow(3, n));
            for (int scheme = 0; scheme < schemes; scheme++) {
                int[] row = new int[n];
                int rest = scheme;
                int[] many = new int[3];
                for (int i = n - 1; i >= 0; i--) {
                    row[i] = rest % 3;
                    many[row[i]]++;
                    rest /= 3;
                }
                boolean[] helped = helps(row);
                int takes = 0;
                for (int i = 0; i < n; i++) {
                    takes += row[i] > 0 ? price[i][helped[i] ? 2 : 0] : 0;
                    takes += row[i] > 1 ? price[i][helped[i] ? 3 : 1] : 0;
                }
                if (takes > hours) {
                    continue;
                }
                Odds o = seen.computeIfAbsent(many[1] * 100 + many[2], key -> schemeOdds(row));
                int better = bestRow == null ? 1 : o.compare(bestOdds);
                if (better > 0 || better == 0 && takes < bestHours) {
                    bestRow = row;
                    bestOdds = o;
                    bestHours = takes;
                }
            }
        }

        private Odds schemeOdds(int[] row) {
            List<Integer> levels = new ArrayList<>();
            List<Integer> liked = new ArrayList<>();
            for (int level : row) {
                levels.add(level);
                liked.add(0);
            }
            return passes(odds(levels, liked, 0));
        }

        long best(int hours, int part) {
            if (hours < 0 || hours > 400 || part < 0 || part > 2) {
                return -1;
            }
            findBest(hours);
            return part == 2 ? bestHours : bestOdds.part(part);
        }

        int level(int hours, int q) {
            if (hours < 0 || hours > 400 || !bowl().contains(q)) {
                return -1;
            }
            findBest(hours);
            return bestRow[bowl().indexOf(q)];
        }

        int enough(int hundredths) {
            if (hundredths < 0 || hundredths > 100) {
                return -1;
            }
            int least = 0;
            int most = 401;
            while (least < most) {
                int hours = (least + most) / 2;
                findBest(hours);
                if (bestOdds.compare(Odds.of(hundredths, 100)) >= 0) {
                    most = hours;
                } else {
                    least = hours + 1;
                }
            }
            return least > 400 ? -1 : least;
        }

        int lesson(int day, int q) {
            if (day < 0 || day > 19) {
                return no(-1);
            }
            if (!there(q)) {
                return no(-2);
            }
            if (k.lessons.size() == 120) {
                return no(-5);
            }
            k.lessons.add(new int[] {day, q});
            return yes(k.lessons.size());
        }

        int clear() {
            int had = k.lessons.size();
            k.lessons.clear();
            return had;
        }

        private int dropped;
        private int firstDropped;
        private int falls;
        private int learned;

        /** The levels behind a day; what has been dropped and fell until then. */
        private int[] live(int lastDay) {
            int n = questions();
            int[] level = new int[n];
            int[] without = new int[n];
            dropped = 0;
            firstDropped = -1;
            falls = 0;
            for (int day = 0; day <= lastDay; day++) {
                List<Integer> today = new ArrayList<>();
                for (int[] l : k.lessons) {
                    if (l[0] == day) {
                        today.add(l[1]);
                    }
                }
                boolean[] had = new boolean[n];
                learned = 0;
                for (int i = 0; i < today.size(); i++) {
                    int q = today.get(i);
                    boolean helped = false;
                    for (int other = 0; other < n; other++) {
                        helped |= other != q && level[other] > 0 && k.slips.get(q).king > 0
                                && k.slips.get(q).king == k.slips.get(other).king;
                    }
                    int takes = hours(q, level[q] + 1, helped, day);
                    if (learned + takes > k.terms[6]) {
                        dropped += today.size() - i;
                        firstDropped = firstDropped < 0 ? day : firstDropped;
                        break;
                    }
                    learned += takes;
                    level[q] = level[q] == 2 ? 2 : level[q] + 1;
                    had[q] = true;
                }
                for (int q = 0; q < n; q++) {
                    without[q] = had[q] ? 0 : without[q] + 1;
                    if (level[q] > 0 && !had[q] && without[q] >= keeps(q, level[q])) {
                        level[q]--;
                        without[q] = 0;
                        falls++;
                    }
                }
            }
            return level;
        }

        int behind(int day, int q) {
            if (day < 0 || day >= k.terms[5] || q != -1 && !there(q)) {
                return -1;
            }
            int[] level = live(day);
            return q == -1 ? learned : level[q];
        }

        int judge(int what) {
            live(k.terms[5] - 1);
            return what == 0 ? dropped : what == 1 ? firstDropped : what == 2 ? falls : -1;
        }

        int learn() {
            int[] level = live(k.terms[5] - 1);
            int many = 0;
            for (int q = 0; q < level.length; q++) {
                k.slips.get(q).known = level[q];
                many += level[q] > 0 ? 1 : 0;
            }
            return yes(many);
        }

        int backward(int question, int level) {
            if (level < 1 || level > 2 || question != -1 && !there(question)) {
                return -1;
            }
            findBest(k.terms[5] * k.terms[6]);
            List<Integer> bowl = bowl();
            boolean[] helped = helps(bestRow);
            List<int[]> lessons = new ArrayList<>();
            for (int wanted = 2; wanted > 0; wanted--) {
                for (int i = 0; i < bowl.size(); i++) {
                    for (int to = bestRow[i]; to > 0 && bestRow[i] == wanted; to--) {
                        lessons.add(new int[] {bowl.get(i), to, hours(bowl.get(i), to, helped[i], 0), -1});
                    }
                }
            }
            int[] left = new int[k.terms[5]];
            Arrays.fill(left, k.terms[6]);
            int day = k.terms[5] - 1;
            int out = 0;
            int first = -1;
            for (int[] l : lessons) {
                while (day >= 0 && left[day] < l[2]) {
                    day--;
                }
                if (day < 0) {
                    out++;
                    continue;
                }
                left[day] -= l[2];
                l[3] = day;
                first = first < 0 ? day : Math.min(first, day);
            }
            if (question == -1) {
                return level == 1 ? out : first;
            }
            for (int[] l : lessons) {
                if (l[0] == question && l[1] == level) {
                    return l[3];
                }
            }
            return -1;
        }

        int friend(int f, int hours) {
            if (f < 0 || f > 2 || hours < 0 || hours > 99) {
                return no(-1);
            }
            int was = k.friends[f];
            k.friends[f] = hours;
            return yes(was);
        }

        private final Map<Long, Integer> mostFrom = new HashMap<>();

        private int mostFrom(int[] price, int q, int a, int b, int c) {
            if (q == price.length) {
                return 0;
            }
            long key = ((q * 100L + a) * 100 + b) * 100 + c;
            Integer known = mostFrom.get(key);
            if (known != null) {
                return known;
            }
            int most = mostFrom(price, q + 1, a, b, c);
            int p = price[q];
            most = Math.max(most, p <= a ? 1 + mostFrom(price, q + 1, a - p, b, c) : 0);
            most = Math.max(most, p <= b ? 1 + mostFrom(price, q + 1, a, b - p, c) : 0);
            most = Math.max(most, p <= c ? 1 + mostFrom(price, q + 1, a, b, c - p) : 0);
            mostFrom.put(key, most);
            return most;
        }

        int share(int question) {
            if (question != -1 && !there(question)) {
                return -1;
            }
            int[] price = new int[Math.min(12, questions())];
            for (int q = 0; q < price.length; q++) {
                price[q] = hours(q, 1, false, 0) + hours(q, 2, false, 0);
            }
            mostFrom.clear();
            int[] left = k.friends.clone();
            int most = mostFrom(price, 0, left[0], left[1], left[2]);
            if (question == -1) {
                return most;
            }
            int wanted = most;
            for (int q = 0; q < price.length; q++) {
                int who = -1;
                for (int f = 0; f < 3 && who < 0; f++) {
                    if (price[q] <= left[f]) {
                        left[f] -= price[q];
                        if (1 + mostFrom(price, q + 1, left[0], left[1], left[2]) == wanted) {
                            who = f;
                        } else {
                            left[f] += price[q];
                        }
                    }
                }
                wanted -= who >= 0 ? 1 : 0;
                if (q == question) {
                    return who;
                }
            }
            return -1;
        }

        int ill(int days, int hours) {
            if (days < 0 || days > 3 || hours < 0 || hours > 100) {
                return -1;
            }
            Odds all = Odds.of(0, 1);
            for (int set = 0; set < 1 << days; set++) {
                Odds o = Odds.of(1, 1);
                for (int day = 0; day < days; day++) {
                    o = o.times(Odds.of((set >>> day & 1) == 1 ? k.terms[4] : 100 - k.terms[4], 100));
                }
                findBest(hours * (days - Integer.bitCount(set)));
                all = all.plus(o.times(bestOdds));
            }
            return all.millionths();
        }

        int year(int drawn) {
            if (drawn < 0 || drawn >= 1 << questions()) {
                return no(-1);
            }
            if (k.years.size() == 40) {
                return no(-5);
            }
            k.years.add(drawn);
            return yes(k.years.size());
        }

        int row() {
            int[] bytes = takeTape();
            if (bytes.length == 0) {
                return no(-6);
            }
            int came = 0;
            lost = 0;
            for (int at = 0; at < bytes.length; at += 4) {
                if (at + 3 >= bytes.length) {
                    lost++;
                    continue;
                }
                int bits = bytes[at] << 24 | bytes[at + 1] << 16 | bytes[at + 2] << 8 | bytes[at + 3];
                if (bits < 0 || bits >= 1 << questions() || k.years.size() == 40) {
                    lost++;
                } else {
                    k.years.add(bits);
                    came++;
                }
            }
            return yes(came);
        }

        int drawn(int q, int what) {
            if (!there(q) || what < 0 || what > 1) {
                return -1;
            }
            int times = 0;
            int ago = -1;
            for (int y = 0; y < k.years.size(); y++) {
                if ((k.years.get(y) >>> q & 1) == 1) {
                    times++;
                    ago = k.years.size() - 1 - y;
                }
            }
            return what == 0 ? times : ago;
        }

        int seldom(int q) {
            if (q == -1 && questions() > 0) {
                int least = Integer.MAX_VALUE;
                for (int i = 0; i < questions(); i++) {
                    least = Math.min(least, seldom(i));
                }
                return Math.min(1_000_000, least * questions());
            }
            if (!there(q)) {
                return -1;
            }
            int n = questions();
            int lie = k.terms[0];
            int years = k.years.size();
            if (lie >= n) {
                return 1_000_000;
            }
            // by years: the weights of having been drawn so often
            BigInteger[] often = new BigInteger[years + 2];
            Arrays.fill(often, BigInteger.ZERO);
            often[0] = BigInteger.ONE;
            for (int y = 0; y < years; y++) {
                for (int t = years; t >= 0; t--) {
                    often[t] = often[t].multiply(BigInteger.valueOf(n - lie))
                            .add(t > 0 ? often[t - 1].multiply(BigInteger.valueOf(lie)) : BigInteger.ZERO);
                }
            }
            BigInteger sum = BigInteger.ZERO;
            for (int t = 0; t <= drawn(q, 0); t++) {
                sum = sum.add(often[t]);
            }
            return new Odds(sum, BigInteger.valueOf(n).pow(years)).millionths();
        }

        private long s;

        private int draw(int n) {
            s = (s * 1103 + 12345) % 1_000_003;
            return (int) (s % n);
        }

        private int[] sit() {
            List<Integer> left = bowl();
            List<Integer> lying = new ArrayList<>();
            List<Integer> fans = new ArrayList<>();
            for (int q : left) {
                if (k.slips.get(q).liked == 1) {
                    fans.add(q);
                }
            }
            if (left.size() <= k.terms[0]) {
                lying.addAll(left);
            } else {
                if (!fans.isEmpty() && draw(100) < k.terms[3]) {
                    Integer first = fans.get(draw(fans.size()));
                    lying.add(first);
                    left.remove(first);
                }
                while (lying.size() < k.terms[0]) {
                    lying.add(left.remove(draw(left.size())));
                }
            }
            List<Integer> order = new ArrayList<>(lying);
            order.sort((a, b) -> {
                int byChance = chance(k.slips.get(b).known) - chance(k.slips.get(a).known);
                return byChance != 0 ? byChance : a - b;
            });
            int[] bits = new int[3];
            for (int q : lying) {
                bits[0] |= 1 << q;
            }
            for (int i = 0; i < k.terms[1] && i < order.size(); i++) {
                int q = order.get(i);
                bits[1] |= 1 << q;
                bits[2] |= draw(100) < chance(k.slips.get(q).known) ? 1 << q : 0;
            }
            return bits;
        }

        int exam(int seed) {
            if (seed < 0 || seed > 1_000_000) {
                return no(-1);
            }
            s = seed;
            exam = sit();
            return yes(Integer.bitCount(exam[2]));
        }

        int table(int what) {
            return exam == null || what < 0 || what > 2 ? -1 : exam[what];
        }

        int exams(int n, int seed) {
            if (n < 1 || n > 500 || seed < 0 || seed > 1_000_000) {
                return -1;
            }
            s = seed;
            int passed = 0;
            for (int i = 0; i < n; i++) {
                passed += Integer.bitCount(sit()[2]) >= k.terms[2] ? 1 : 0;
            }
            return passed;
        }

        int image(int i) {
            if (i < 0 || i > 1) {
                return no(-1);
            }
            images[i] = k.copy();
            return yes(0);
        }

        int back(int i) {
            if (i < 0 || i > 1) {
                return no(-1);
            }
            if (images[i] == null) {
                return no(-2);
            }
            k = images[i].copy();
            return yes(0);
        }

        int count(int what) {
            int known = 0;
            for (Slip s : k.slips) {
                known += s.known > 0 ? 1 : 0;
            }
            int[] all = {questions(), bowl().size(), k.papers.size(), k.lessons.size(), k.years.size(), known,
                tape.size(), refused[1], refused[2], refused[3], refused[5], refused[6], k.use};
            return what < 0 || what >= all.length ? -1 : all[what];
        }
    }
}
