import java.util.ArrayList;
import java.util.List;

/**
 * Each sentence of the document that names a boundary case, with runs of its own: rows of calls on a new object.
 *
 * <p>A row is "call arguments = answer that is due", or without the answer where the row only prepares; a number before
 * the call says how often it is made. A place may be written as x,y, a set as {0 3} or {0..27}, the outermost ints as
 * min and max, and * as an engine stands for each engine in turn.
 *
 * <p>Of every row that is not an accepted add, remove or move, refused ones above all, it is also tested that it changes
 * nothing: two objects, one with and one without that call, must then answer all calls alike (promise 17).
 */
public final class RangeSuiteBoundaries {
    private static final int CALLS = 512;
    private static final int POINTS = 28;
    private static final int RECTANGLE_ENGINES = 8;
    private static final int NEAR_ENGINES = 4;

    // Stands for a call that threw, so that the runs after it are still made; no call may answer this number.
    private static final int THREW = Integer.MIN_VALUE;

    private static final String[] WRONG_PLACES = {"-1", "-64", "min", "4096", "4159", "max"};
    private static final String[] WRONG_POINTS = {"-1", "-28", "-32", "min", "28", "31", "32", "59", "64", "max"};

    private static final List<View> VIEWS = views();

    private static int wrong = 0;
    private static int runs = 0;
    private static String where = "";
    private static String words = "";

    // ---- calls and rows

    /** One call, with the answer that is due; booleans are 1 and 0. */
    private record Call(String name, int[] arguments, boolean checked, int due) {
        boolean isAcceptedChange() {
            boolean isChange = name.equals("add") || name.equals("remove") || name.equals("move");
            return isChange && (!checked || due >= 0);
        }

        boolean isRefused() {
            return checked && (name.equals("agree") ? due == 0 : due < 0);
        }

        @Override
        public String toString() {
            StringBuilder text = new StringBuilder(name).append('(');
            for (int i = 0; i < arguments.length; i++) {
                text.append(i == 0 ? "" : ", ").append(arguments[i]);
            }
            return text.append(')').toString();
        }
    }

    /** An object of the class that counts its calls: the document promises nothing after the 512th. */
    private static final class Counted {
        private final RangeSuite suite = new RangeSuite();
        private int calls = 0;

        int answer(Call call) {
            calls++;
            if (calls > CALLS) {
                throw new IllegalStateException("a test makes more than " + CALLS + " calls on one object");
            }
            return answerOrThrew(suite, call.name(), call.arguments());
        }

        int answer(String name, int... arguments) {
            return answer(new Call(name, arguments, false, 0));
        }
    }

    private static int answerOrThrew(RangeSuite s, String name, int... arguments) {
        try {
            return answerOf(s, name, arguments);
        } catch (ArithmeticException | IndexOutOfBoundsException | NullPointerException fault) {
            return THREW;
        }
    }

    private static int answerOf(RangeSuite s, String name, int... a) {
        return switch (name) {
            case "add" -> s.add(a[0]);
            case "remove" -> s.remove(a[0]);
            case "move" -> s.move(a[0], a[1]);
            case "at" -> s.at(a[0]);
            case "points" -> s.points();
            case "inside" -> s.inside(a[0], a[1], a[2]);
            case "count" -> s.count(a[0], a[1], a[2]);
            case "agree" -> s.agree(a[0], a[1], a[2], a[3]) ? 1 : 0;
            case "nearest" -> s.nearest(a[0], a[1]);
            case "ranked" -> s.ranked(a[0], a[1]);
            case "square" -> s.square(a[0]);
            case "around" -> s.around(a[0], a[1]);
            case "closest" -> s.closest();
            case "staircase" -> s.staircase();
            case "below" -> s.below(a[0]);
            default -> throw new IllegalArgumentException(name);
        };
    }

    private static int valueOf(String token) {
        switch (token) {
            case "BAD":
                return -1;
            case "FULL":
                return -2;
            case "true":
                return 1;
            case "false":
                return 0;
            case "min":
                return Integer.MIN_VALUE;
            case "max":
                return Integer.MAX_VALUE;
            default:
                int comma = token.indexOf(',');
                if (comma < 0) {
                    return Integer.parseInt(token);
                }
                return Integer.parseInt(token.substring(0, comma)) + 64 * Integer.parseInt(token.substring(comma + 1));
        }
    }

    private static int dueOf(String text) {
        if (!text.startsWith("{")) {
            return valueOf(text);
        }
        int set = 0;
        for (String part : text.substring(1, text.length() - 1).trim().split(" +")) {
            if (part.isEmpty()) {
                continue;
            }
            int dots = part.indexOf("..");
            int first = Integer.parseInt(dots < 0 ? part : part.substring(0, dots));
            int last = dots < 0 ? first : Integer.parseInt(part.substring(dots + 2));
            for (int k = first; k <= last; k++) {
                set |= 1 << k;
            }
        }
        return set;
    }

    private static void addCalls(List<Call> calls, String row) {
        int star = row.indexOf('*');
        if (star >= 0) {
            int engines = row.startsWith("nearest") ? NEAR_ENGINES : RECTANGLE_ENGINES;
            for (int engine = 0; engine < engines; engine++) {
                addCalls(calls, row.substring(0, star) + engine + row.substring(star + 1));
            }
            return;
        }
        int equals = row.indexOf(" = ");
        String[] tokens = (equals < 0 ? row : row.substring(0, equals)).split(" +");
        boolean repeats = Character.isDigit(tokens[0].charAt(0));
        int times = repeats ? Integer.parseInt(tokens[0]) : 1;
        int first = repeats ? 2 : 1;
        int[] arguments = new int[tokens.length - first];
        for (int i = 0; i < arguments.length; i++) {
            arguments[i] = valueOf(tokens[first + i]);
        }
        int due = equals < 0 ? 0 : dueOf(row.substring(equals + 3));
        for (int i = 0; i < times; i++) {
            calls.add(new Call(tokens[first - 1], arguments, equals >= 0, due));
        }
    }

    // ---- running them

    private static void tell(String edge, String fault) {
        wrong++;
        if (wrong <= 100) {
            System.out.println(where + ", '" + words + "', " + edge + ": " + fault);
        }
    }

    /** The words of the document that the runs after this are about. */
    private static void says(String promise, String sentence) {
        where = promise;
        words = sentence;
    }

    private static void run(String edge, String... rows) {
        List<Call> calls = new ArrayList<>();
        for (String row : rows) {
            addCalls(calls, row);
        }
        runAnswers(edge, calls);
        runUnchanged(edge, rows);
    }

    private static void runAnswers(String edge, List<Call> calls) {
        runs++;
        Counted suite = new Counted();
        for (Call call : calls) {
            int got = suite.answer(call);
            if (got == THREW) {
                tell(edge, call + " threw");
            } else if (call.checked() && got != call.due()) {
                tell(edge, call + " answered " + got + ", due is " + call.due());
            }
        }
    }

    private static void runUnchanged(String edge, String[] rows) {
        List<Call> changes = new ArrayList<>();
        for (String row : rows) {
            List<Call> calls = new ArrayList<>();
            addCalls(calls, row);
            List<Call> questions = new ArrayList<>();
            for (Call call : calls) {
                if (call.isAcceptedChange()) {
                    changes.add(call);
                } else if (call.isRefused()) {
                    sameAfter(edge, changes, List.of(call));
                } else {
                    questions.add(call);
                }
            }
            if (!questions.isEmpty()) {
                sameAfter(edge, changes, questions);
            }
        }
    }

    /** What an object answers to a list of calls, which all begin from where it stands. */
    private interface View {
        List<Integer> answers(Counted suite);
    }

    private static void sameAfter(String edge, List<Call> changes, List<Call> idle) {
        for (View view : VIEWS) {
            Counted without = after(changes);
            Counted with = after(changes);
            for (Call call : idle) {
                with.answer(call);
            }
            if (!view.answers(without).equals(view.answers(with))) {
                tell(edge, idle + " changed something, which is due to change nothing");
                return;
            }
        }
    }

    private static List<View> views() {
        List<View> views = new ArrayList<>();
        views.add(RangeSuiteBoundaries::pointsView);
        views.add(RangeSuiteBoundaries::laterView);
        for (int i = 0; i < RECTANGLE_ENGINES; i++) {
            int engine = i;
            views.add(suite -> rectanglesView(suite, engine));
        }
        for (int i = 0; i < NEAR_ENGINES; i++) {
            int engine = i;
            views.add(suite -> nearView(suite, engine));
        }
        return views;
    }

    private static Counted after(List<Call> changes) {
        Counted suite = new Counted();
        for (Call change : changes) {
            suite.answer(change);
        }
        return suite;
    }

    private static List<Integer> pointsView(Counted s) {
        List<Integer> seen = new ArrayList<>();
        seen.add(s.answer("points"));
        seen.add(s.answer("closest"));
        seen.add(s.answer("staircase"));
        for (int k = 0; k < POINTS; k++) {
            seen.add(s.answer("at", k));
            seen.add(s.answer("below", k));
            seen.add(s.answer("ranked", 0, k));
            seen.add(s.answer("ranked", 2100, k));
        }
        for (int place = 0; place < 4096; place += 455) {
            seen.add(s.answer("square", place));
            seen.add(s.answer("around", place, 400));
            seen.add(s.answer("around", place, 2500));
        }
        return seen;
    }

    /** All columns and rows from the first on, and all places of points: each part of what an engine keeps shows there. */
    private static List<Integer> rectanglesView(Counted s, int engine) {
        List<Integer> seen = new ArrayList<>();
        for (int i = 0; i < 64; i++) {
            seen.add(s.answer("inside", engine, 0, i + 64 * 63));
            seen.add(s.answer("inside", engine, 0, 63 + 64 * i));
        }
        for (int k = 0; k < POINTS; k++) {
            int place = s.answer("at", k);
            seen.add(place < 0 ? place : s.answer("count", engine, place, place));
        }
        return seen;
    }

    private static List<Integer> nearView(Counted s, int engine) {
        List<Integer> seen = new ArrayList<>();
        for (int place = 0; place < 4096; place += 65) {
            seen.add(s.answer("nearest", engine, place));
            seen.add(s.answer("nearest", engine, 4032 - place / 65 * 63));
        }
        for (int k = 0; k < POINTS; k++) {
            int place = s.answer("at", k);
            seen.add(place < 0 ? place : s.answer("nearest", engine, place));
        }
        return seen;
    }

    /** A change that was kept in secret may show only in what later changes do. */
    private static List<Integer> laterView(Counted s) {
        List<Integer> seen = new ArrayList<>();
        seen.add(s.answer("add", 777));
        seen.add(s.answer("move", 0, 3210));
        seen.add(s.answer("remove", 1));
        seen.add(s.answer("add", 3211));
        seen.add(s.answer("add", 776));
        for (int k = 0; k < POINTS; k++) {
            seen.add(s.answer("inside", k % RECTANGLE_ENGINES, 0, 4095));
            seen.add(s.answer("nearest", k % NEAR_ENGINES, 3000));
            seen.add(s.answer("remove", k));
        }
        for (int engine = 0; engine < RECTANGLE_ENGINES; engine++) {
            seen.add(s.answer("inside", engine, 0, 4095));
        }
        for (int k = 0; k <= POINTS; k++) {
            seen.add(s.answer("add", 145 * k));
        }
        for (int engine = 0; engine < RECTANGLE_ENGINES; engine++) {
            seen.add(s.answer("inside", engine, 0, 4095));
            seen.add(s.answer("nearest", engine % NEAR_ENGINES, 3000));
        }
        return seen;
    }

    /** The rows that prepare, then one row for each of the wrong numbers, put in for '?'. */
    private static void refused(String edge, String[] before, String row, String... numbers) {
        for (String number : numbers) {
            runAfter(edge + " " + number, before, row.replace("?", number));
        }
    }

    private static void runAfter(String edge, String[] before, String... rows) {
        List<String> all = new ArrayList<>(List.of(before));
        all.addAll(List.of(rows));
        run(edge, all.toArray(new String[0]));
    }

    private static String[] rows(String... rows) {
        return rows;
    }

    // ---- 'What it is'

    private static void whatItIs() {
        says("What it is", "by many ways of keeping them, which all find the same");
        String[] changes = {"add 8,8", "add 8,8", "add 7,8", "add 40,20", "move 3 8,7", "remove 0", "add 9,9"};
        runAfter("rectangles after points came, moved and went", changes, "inside * 7,7 8,8 = {1 2 3}",
            "inside * 8,8 9,9 = {0 1}", "inside * 40,20 40,20 = {}", "count * 0,8 63,8 = 2", "agree * * 8,8 9,9 = true");
        runAfter("near points after points came, moved and went", changes, "nearest * 8,9 = 0", "nearest * 7,7 = 2",
            "nearest * 40,20 = 0");

        says("What it is", "An object is used for at most 512 calls after it has been made");
        String[] lasts = {
            "add 6,6 = 1", "remove 0 = 5,5", "move 0 6,6 = 5,5", "at 0 = 5,5", "points = {0}", "closest = BAD",
            "ranked 0 0 = 0", "square 0 = 50", "around 0 50 = {0}", "staircase = {0}", "below 0 = 0",
            "agree 2 5 0 4095 = true", "add 4096 = BAD", "remove 1 = BAD",
        };
        for (String last : lasts) {
            run512(last);
        }
        for (int engine = 0; engine < RECTANGLE_ENGINES; engine++) {
            run512("inside " + engine + " 5,5 5,5 = {0}");
            run512("count " + engine + " 0 4095 = 1");
        }
        for (int engine = 0; engine < NEAR_ENGINES; engine++) {
            run512("nearest " + engine + " 9,9 = 0");
        }

        says("What it is", "what later calls answer is free");
        laterCallsEnd();
    }

    private static void run512(String last) {
        List<Call> calls = new ArrayList<>();
        addCalls(calls, "add 5,5 = 0");
        for (int i = 0; i < 170; i++) {
            addCalls(calls, "add 9,9 = 1");
            addCalls(calls, "move 1 10,10 = 9,9");
            addCalls(calls, "remove 1 = 10,10");
        }
        addCalls(calls, last);
        if (calls.size() != CALLS) {
            tell("the last call", "the test makes " + calls.size() + " calls");
        }
        runAnswers("the 512th call", calls);
    }

    /** Free is what they answer, but none may throw (rule 7 of LANGUAGE.md). */
    private static void laterCallsEnd() {
        runs++;
        RangeSuite suite = new RangeSuite();
        int[] numbers = {0, 5, 27, 28, 31, 32, 63, 64, 4095, 4096, -1, -32, Integer.MIN_VALUE, Integer.MAX_VALUE};
        String[] names = {
            "add", "move", "inside", "nearest", "remove", "count", "add", "agree", "ranked", "square", "around",
            "closest", "staircase", "below", "at", "points",
        };
        for (int i = 0; i < 20000; i++) {
            int a = numbers[i % numbers.length];
            int b = numbers[i / 7 % numbers.length];
            int c = numbers[i / 11 % numbers.length];
            int d = numbers[i / 13 % numbers.length];
            String name = names[i % names.length];
            if (answerOrThrew(suite, name, a, b, c, d) == THREW) {
                tell("call " + (i + 1), name + " threw with " + List.of(a, b, c, d));
                return;
            }
        }
    }

    // ---- 'Terms'

    private static void termsOfPoints() {
        says("Terms", "There are at most 28 POINTS, with numbers 0 .. 27");
        run("28 fit and no more", "27 add 1,1", "add 1,1 = 27", "add 1,1 = FULL", "points = {0..27}", "count * 0 4095 = 28");
        run("0 is the first number", "add 2,2 = 0", "at 0 = 2,2", "at -1 = BAD");
        run("27 is the last number", "28 add 3,3", "at 27 = 3,3", "at 28 = BAD");

        says("Terms", "a point has whole numbers x and y from 0 to 63");
        run("the corners", "add 0,0 = 0", "add 63,0 = 1", "add 0,63 = 2", "add 63,63 = 3", "points = {0 1 2 3}",
            "inside * 0,0 0,0 = {0}", "inside * 63,0 63,0 = {1}", "inside * 0,63 0,63 = {2}",
            "inside * 63,63 63,63 = {3}", "nearest * 1,1 = 0", "nearest * 62,1 = 1", "nearest * 1,62 = 2",
            "nearest * 62,62 = 3");

        says("Terms", "written as x + 64 * y (0 .. 4095)");
        run("the corners as numbers", "add 0,0", "add 63,0", "add 0,63", "add 63,63", "at 0 = 0", "at 1 = 63",
            "at 2 = 4032", "at 3 = 4095");
        run("from the end of a row round to the next", "add 63", "add 64", "inside * 63,0 63,0 = {0}",
            "inside * 0,1 0,1 = {1}", "inside * 0,0 63,0 = {0}", "inside * 0,1 63,1 = {1}", "closest = 3970");

        says("Terms", "several points may be at one place");
        run("two, of which one goes", "add 9,9 = 0", "add 9,9 = 1", "inside * 9,9 9,9 = {0 1}", "remove 0 = 9,9",
            "inside * 9,9 9,9 = {1}", "at 1 = 9,9");
        run("three, of which the middle one moves", "3 add 9,9", "move 1 10,9 = 9,9", "inside * 9,9 9,9 = {0 2}",
            "inside * 10,9 10,9 = {1}");
        run("two that meet by a move", "add 1,1", "add 2,2", "move 0 2,2 = 1,1", "inside * 2,2 2,2 = {0 1}",
            "points = {0 1}");
        run("all 28", "28 add 9,9", "inside * 9,9 9,9 = {0..27}", "nearest * 9,9 = 0", "remove 0", "nearest * 9,9 = 1");

        says("Terms", "Sets of points are written with bit k for point k");
        run("bit 0", "add 5,5", "points = 1", "inside * 0 4095 = 1", "around 0 50 = 1", "staircase = 1");
        run("bit 27", "27 add 5,5", "add 6,6", "inside * 6,6 6,6 = 134217728", "around 6,6 0 = 134217728",
            "staircase = 134217728");
        run("all bits", "28 add 5,5", "points = 268435455", "inside * 0 4095 = 268435455", "around 0 50 = 268435455",
            "staircase = 268435455");
    }

    private static void termsOfRectangles() {
        says("Terms", "its x is from that of low to that of high");
        run("the x of low counts, one less does not", "add 20,30", "add 19,30", "inside * 20,0 63,63 = {0}",
            "inside * 19,0 63,63 = {0 1}");
        run("the x of high counts, one more does not", "add 20,30", "add 21,30", "inside * 0,0 20,63 = {0}",
            "inside * 0,0 21,63 = {0 1}");
        run("one column", "add 19,5", "add 20,0", "add 20,63", "add 21,5", "inside * 20,0 20,63 = {1 2}");
        run("the outermost columns", "add 0,5", "add 1,5", "add 62,5", "add 63,5", "inside * 0,0 0,63 = {0}",
            "inside * 63,0 63,63 = {3}", "inside * 0,0 63,63 = {0..3}", "inside * 1,0 62,63 = {1 2}");

        says("Terms", "and its y from that of low to that of high");
        run("the y of low counts, one less does not", "add 30,20", "add 30,19", "inside * 0,20 63,63 = {0}",
            "inside * 0,19 63,63 = {0 1}");
        run("the y of high counts, one more does not", "add 30,20", "add 30,21", "inside * 0,0 63,20 = {0}",
            "inside * 0,0 63,21 = {0 1}");
        run("one row", "add 5,19", "add 0,20", "add 63,20", "add 5,21", "inside * 0,20 63,20 = {1 2}");
        run("the outermost rows", "add 5,0", "add 5,1", "add 5,62", "add 5,63", "inside * 0,0 63,0 = {0}",
            "inside * 0,63 63,63 = {3}", "inside * 0,0 63,63 = {0..3}", "inside * 0,1 63,62 = {1 2}");
        run("x fits but y does not", "add 20,10", "add 20,40", "inside * 10,20 30,30 = {}");
        run("y fits but x does not", "add 10,20", "add 40,20", "inside * 20,10 30,30 = {}");

        says("Terms", "(so it may be empty)");
        String[] around = {"add 15,15", "add 16,16", "add 15,16", "add 16,15"};
        runAfter("x by one the wrong way", around, "inside * 16,0 15,63 = {}");
        runAfter("y by one the wrong way", around, "inside * 0,16 63,15 = {}");
        runAfter("both the wrong way", around, "inside * 16,16 15,15 = {}");
        run("x all the wrong way", "add 0,5", "add 63,5", "add 30,5", "inside * 63,0 0,63 = {}");
        run("y all the wrong way", "add 5,0", "add 5,63", "add 5,30", "inside * 0,63 63,0 = {}");
        run("from the last place to the first", "add 0,0", "add 63,63", "inside * 4095 0 = {}", "count * 4095 0 = 0",
            "agree * * 4095 0 = true");
        run("x the wrong way though low is the lesser number", "add 63", "add 64", "add 30,0", "inside * 63 64 = {}",
            "inside * 31,0 30,1 = {}");
        run("a single place", "add 15,15", "inside * 15,15 15,15 = {0}", "inside * 14,15 14,15 = {}");
    }

    private static void termsOfSquares() {
        says("Terms", "the sum of the squares of the differences of their x and of their y");
        run("of a place with itself", "add 7,9", "square 7,9 = 0", "add 7,9", "closest = 0");
        run("by x alone", "add 7,9", "square 10,9 = 9", "square 4,9 = 9");
        run("by y alone", "add 7,9", "square 7,13 = 16", "square 7,5 = 16");
        run("by both, to every side", "add 7,9", "square 10,13 = 25", "square 4,13 = 25", "square 10,5 = 25",
            "square 4,5 = 25");
        run("the greatest one", "add 63,63", "square 0,0 = 7938", "add 0,0", "closest = 7938");
        run("the other corners", "add 63,0", "square 0,63 = 7938", "add 0,63", "closest = 7938");

        says("Terms", "when its square from the place is less");
        run("less, and more by one", "add 5,0", "add 4,3", "add 4,2", "nearest * 0 = 2", "move 2 5,1", "nearest * 0 = 0");
        run("not by the sum of the differences", "add 0,6", "add 4,4", "nearest * 0 = 1", "ranked 0 0 = 1");
        run("not by the greater difference", "add 5,5", "add 0,6", "nearest * 0 = 1", "ranked 0 0 = 1");
        run("whatever the numbers", "add 9,9", "add 8,8", "nearest * 0 = 1", "nearest * 63,63 = 0");

        says("Terms", "or the same and its number less");
        run("on either side", "add 20,10", "add 0,10", "nearest * 10,10 = 0", "ranked 10,10 0 = 0", "ranked 10,10 1 = 1");
        run("on either side, the other way round", "add 0,10", "add 20,10", "nearest * 10,10 = 0");
        run("above and beneath", "add 10,20", "add 10,0", "nearest * 10,10 = 0", "ranked 10,10 1 = 1");
        run("above and beneath, the other way round", "add 10,0", "add 10,20", "nearest * 10,10 = 0");
        run("by other differences", "add 3,4", "add 5,0", "add 0,5", "nearest * 0 = 0", "ranked 0 1 = 1", "ranked 0 2 = 2");
        run("by other differences, the other way round", "add 0,5", "add 5,0", "add 4,3", "nearest * 0 = 0",
            "ranked 0 2 = 2");
        run("one place", "add 63,63", "add 9,9", "add 9,9", "nearest * 8,8 = 1", "ranked 8,8 0 = 1", "ranked 8,8 1 = 2");
        run("a number that was used again", "add 20,10", "add 0,10", "remove 0", "add 63,63", "remove 0", "add 20,10 = 0",
            "nearest * 10,10 = 0");
    }

    private static void termsOfEngines() {
        says("Terms", "An ENGINE is a number 0 .. 7 for rectangles");
        run("the first and the last", "add 5,5", "inside 0 0 4095 = {0}", "inside 7 0 4095 = {0}", "count 0 0 4095 = 1",
            "count 7 0 4095 = 1", "agree 0 7 0 4095 = true");
        run("one less than the first", "add 5,5", "inside -1 0 4095 = BAD");
        run("one more than the last", "add 5,5", "inside 8 0 4095 = BAD");

        says("Terms", "and 0 .. 3 for near points");
        run("the first and the last", "add 5,5", "nearest 0 0 = 0", "nearest 3 0 = 0");
        run("one less than the first", "add 5,5", "nearest -1 0 = BAD");
        run("one more than the last", "add 5,5", "nearest 4 0 = BAD");
        run("the last for rectangles", "add 5,5", "nearest 7 0 = BAD");

        says("Terms", "No answer depends on it");
        run("rectangles, full", "14 add 31,32", "14 add 32,31", "inside * 31,31 31,32 = {0..13}",
            "inside * 32,31 32,32 = {14..27}", "inside * 0,0 31,31 = {}", "inside * 32,32 63,63 = {}",
            "count * 31,31 32,32 = 28", "agree * * 31,0 31,63 = true");
        run("near points, full", "14 add 31,32", "14 add 32,31", "nearest * 31,31 = 0", "nearest * 32,31 = 14",
            "nearest * 32,32 = 0", "nearest * 63,0 = 14", "nearest * 0,63 = 0");
        run("rectangles, none", "add 5,5", "remove 0", "inside * 0 4095 = {}", "count * 0 4095 = 0",
            "agree * * 0 4095 = true");
        run("near points, none", "add 5,5", "remove 0", "nearest * 5,5 = BAD");
    }

    // ---- the promises

    private static void newObject() {
        says("Promise 1", "No points");
        run("points", "points = {}");
        for (int k = 0; k < POINTS; k++) {
            run("at, remove, move and below of each number", "at " + k + " = BAD", "remove " + k + " = BAD",
                "move " + k + " 5 = BAD", "below " + k + " = BAD");
        }
        run("rectangles", "inside * 0 4095 = {}", "inside * 0 0 = {}", "count * 0 4095 = 0", "agree * * 0 4095 = true");
        run("near points", "nearest * 0 = BAD", "ranked 0 0 = BAD", "square 0 = BAD", "around 0 max = {}");
        run("the others", "closest = BAD", "staircase = {}");
        run("the first number", "add 0 = 0");
        newObjectBesideAnother();
    }

    private static void newObjectBesideAnother() {
        Counted used = new Counted();
        for (int k = 0; k < POINTS; k++) {
            used.answer("add", 100 * k);
        }
        run("beside another object that is full", "points = {}", "inside * 0 4095 = {}", "nearest * 0 = BAD", "add 7 = 0",
            "at 0 = 7", "remove 0 = 7");
        if (used.answer("points") != (1 << POINTS) - 1 || used.answer("at", 0) != 0) {
            tell("beside another object that is full", "the other object was changed");
        }
    }

    private static void add() {
        says("Promise 2", "Adds a point");
        run("to none", "add 12,13", "points = {0}", "at 0 = 12,13", "inside * 12,13 12,13 = {0}", "nearest * 0 = 0");
        run("as the 28th", "27 add 1,1", "add 12,13", "at 27 = 12,13", "inside * 12,13 12,13 = {27}",
            "nearest * 63,63 = 27");

        says("Promise 2", "answers the least number that none has");
        run("in a row", "add 4,4 = 0", "add 3,3 = 1", "add 4,4 = 2");
        run("the first one free", "3 add 4,4", "remove 0", "add 9,9 = 0", "at 0 = 9,9");
        run("a middle one free", "3 add 4,4", "remove 1", "add 9,9 = 1", "add 9,9 = 3");
        run("several free", "5 add 4,4", "remove 3", "remove 1", "add 9,9 = 1", "add 9,9 = 3", "add 9,9 = 5");
        run("the last one free", "28 add 4,4", "remove 27", "add 9,9 = 27");
        run("one of 28 free", "28 add 4,4", "remove 13", "add 9,9 = 13", "at 13 = 9,9", "add 9,9 = FULL");
        run("all free again", "2 add 4,4", "remove 0", "remove 1", "add 9,9 = 0");

        says("Promise 2", "BAD when place is not 0 .. 4095");
        run("the least place", "add 0 = 0", "at 0 = 0");
        run("the greatest place", "add 4095 = 0", "at 0 = 4095");
        refused("into none, place", rows(), "add ? = BAD", WRONG_PLACES);
        refused("beside others, place", rows("add 5,5", "add 6,6"), "add ? = BAD", WRONG_PLACES);

        says("Promise 2", "FULL when there are 28");
        run("27 are not 28", "27 add 5,5", "add 6,6 = 27");
        run("28", "28 add 5,5", "add 6,6 = FULL", "points = {0..27}", "inside * 6,6 6,6 = {}");
        run("the least and the greatest place", "28 add 5,5", "add 0 = FULL", "add 4095 = FULL");
        run("no more after one has gone", "28 add 5,5", "add 6,6 = FULL", "remove 5 = 5,5", "add 6,6 = 5", "add 7,7 = FULL");
        run("still after one has moved", "28 add 5,5", "move 3 8,8", "add 6,6 = FULL");

        says("Promise 2", "(tested in this order)");
        refused("full, and place", rows("28 add 5,5"), "add ? = BAD", WRONG_PLACES);
    }

    private static void remove() {
        says("Promise 3", "Takes point k away");
        run("the only one", "add 5,5", "remove 0", "points = {}", "at 0 = BAD", "inside * 0 4095 = {}", "nearest * 0 = BAD",
            "ranked 0 0 = BAD", "square 0 = BAD", "around 0 max = {}", "staircase = {}", "below 0 = BAD");
        run("the first of three", "add 5,5", "add 6,6", "add 7,7", "remove 0", "points = {1 2}", "inside * 0 4095 = {1 2}",
            "nearest * 0 = 1");
        run("the last of three", "add 5,5", "add 6,6", "add 7,7", "remove 2", "points = {0 1}", "inside * 0 4095 = {0 1}",
            "nearest * 4095 = 1");
        run("number 27 of 28", "28 add 5,5", "remove 27", "points = {0..26}", "inside * 5,5 5,5 = {0..26}");

        says("Promise 3", "answers its place");
        run("the least and the greatest place", "add 0", "add 4095", "remove 0 = 0", "remove 1 = 4095");
        run("where it has moved to", "add 5,5", "move 0 6,7", "remove 0 = 6,7");

        says("Promise 3", "BAD when there is none");
        refused("of none,", rows(), "remove ? = BAD", "0", "27");
        refused("beyond the numbers,", rows("28 add 5,5"), "remove ? = BAD", WRONG_POINTS);
        run("never added", "add 5,5", "remove 1 = BAD", "remove 27 = BAD", "points = {0}");
        run("taken away before", "2 add 5,5", "remove 0 = 5,5", "remove 0 = BAD", "points = {1}");
        run("not added, since it was full", "28 add 5,5", "add 6,6 = FULL", "remove 28 = BAD");
    }

    private static void move() {
        says("Promise 4", "Moves point k to a place");
        run("from the first to the last place", "add 0", "move 0 4095", "at 0 = 4095", "inside * 4095 4095 = {0}",
            "inside * 0 0 = {}", "nearest * 0 = 0");
        run("from the last to the first place", "add 4095", "move 0 0", "at 0 = 0", "inside * 0 0 = {0}",
            "inside * 4095 4095 = {}");
        run("to where it is", "2 add 5,5", "move 0 5,5 = 5,5", "points = {0 1}", "inside * 5,5 5,5 = {0 1}", "at 0 = 5,5");
        run("when full", "28 add 5,5", "move 27 6,6 = 5,5", "points = {0..27}", "inside * 6,6 6,6 = {27}",
            "inside * 5,5 5,5 = {0..26}");
        run("its number stays, though a lesser one is free", "3 add 5,5", "remove 0", "move 2 6,6 = 5,5", "points = {1 2}",
            "at 2 = 6,6");

        says("Promise 4", "answers where it was");
        run("the least and the greatest place", "add 0", "move 0 4095 = 0", "move 0 5 = 4095");
        run("moved twice", "add 5,5", "move 0 6,6 = 5,5", "move 0 7,7 = 6,6");

        says("Promise 4", "BAD, changing nothing, when there is none");
        refused("of none,", rows(), "move ? 5 = BAD", "0", "27");
        refused("beyond the numbers,", rows("28 add 5,5"), "move ? 6,6 = BAD", WRONG_POINTS);
        run("never added", "add 5,5", "move 1 6,6 = BAD", "move 27 6,6 = BAD", "at 0 = 5,5", "points = {0}");
        run("taken away before", "2 add 5,5", "remove 0", "move 0 6,6 = BAD", "at 0 = BAD", "points = {1}",
            "inside * 6,6 6,6 = {}");

        says("Promise 4", "or place is not 0 .. 4095");
        refused("place", rows("add 5,5", "add 6,6"), "move 0 ? = BAD", WRONG_PLACES);
        refused("full, and place", rows("28 add 5,5"), "move 27 ? = BAD", WRONG_PLACES);
        refused("no such point, and place", rows("add 5,5"), "move 1 ? = BAD", WRONG_PLACES);
        run("the point stays where it was", "add 5,5", "move 0 -1 = BAD", "move 0 4096 = BAD", "at 0 = 5,5",
            "inside * 5,5 5,5 = {0}", "nearest * 5,5 = 0");
    }

    private static void at() {
        says("Promise 5", "The place of point k");
        run("the least and the greatest place", "add 0", "add 4095", "at 0 = 0", "at 1 = 4095");
        run("the first and the last number", "add 1,2", "26 add 3,4", "add 5,6", "at 0 = 1,2", "at 27 = 5,6");

        says("Promise 5", "BAD when there is none");
        refused("of none,", rows(), "at ? = BAD", "0", "27");
        refused("beyond the numbers,", rows("28 add 5,5"), "at ? = BAD", WRONG_POINTS);
        run("never added", "add 5,5", "at 1 = BAD", "at 27 = BAD");
        run("taken away", "2 add 5,5", "remove 0", "at 0 = BAD", "at 1 = 5,5");
    }

    private static void points() {
        says("Promise 6", "The points");
        run("none", "points = {}");
        run("one", "add 0", "points = {0}");
        run("27 of 28", "27 add 0", "points = {0..26}");
        run("all 28", "28 add 0", "points = {0..27}");
        run("all but the first and the last", "28 add 0", "remove 0", "remove 27", "points = {1..26}");
        run("none again", "2 add 0", "remove 1", "remove 0", "points = {}");
    }

    private static void inside() {
        says("Promise 7", "The points in a rectangle");
        run("none there", "inside * 0 4095 = {}");
        run("none in it", "add 5,5", "inside * 6,6 63,63 = {}", "inside * 0,0 4,4 = {}");
        run("all 28 in it", "28 add 5,5", "inside * 0 4095 = {0..27}", "inside * 5,5 5,5 = {0..27}");
        run("27 alone in it", "27 add 5,5", "add 6,6", "inside * 6,6 63,63 = {27}");
        run("the whole field, the least and the greatest place", "add 0", "add 4095", "inside * 0 4095 = {0 1}",
            "inside * 0 0 = {0}", "inside * 4095 4095 = {1}");

        says("Promise 7", "BAD when low or high is not 0 .. 4095");
        for (int engine = 0; engine < RECTANGLE_ENGINES; engine++) {
            refused("low", rows("add 0", "add 4095"), "inside " + engine + " ? 4095 = BAD", WRONG_PLACES);
            refused("high", rows("add 0", "add 4095"), "inside " + engine + " 0 ? = BAD", WRONG_PLACES);
            refused("both", rows("add 0", "add 4095"), "inside " + engine + " ? ? = BAD", WRONG_PLACES);
        }
        run("of none", "inside * -1 4095 = BAD", "inside * 0 4096 = BAD");
        run("though the rectangle were empty", "add 5,5", "inside * 4096 0 = BAD", "inside * 4095 -1 = BAD");

        says("Promise 7", "or there is no such engine (for rectangles)");
        String[] wrongEngines = {"-1", "-8", "min", "8", "9", "16", "max"};
        refused("engine", rows("add 5,5"), "inside ? 0 4095 = BAD", wrongEngines);
        refused("of none, engine", rows(), "inside ? 0 4095 = BAD", wrongEngines);
        refused("an empty rectangle, engine", rows("add 5,5"), "inside ? 4095 0 = BAD", wrongEngines);
    }

    private static void count() {
        says("Promise 8", "How many these are");
        run("none there", "count * 0 4095 = 0");
        run("none in it", "add 5,5", "count * 6,6 63,63 = 0");
        run("an empty rectangle", "add 5,5", "count * 6,6 5,5 = 0", "count * 4095 0 = 0");
        run("one in it", "add 5,5", "add 6,6", "count * 5,5 5,5 = 1", "count * 6,6 63,63 = 1");
        run("several at one place", "3 add 5,5", "count * 5,5 5,5 = 3");
        run("number 27 alone", "27 add 5,5", "add 6,6", "count * 6,6 6,6 = 1");
        run("all 28", "28 add 5,5", "count * 0 4095 = 28");

        says("Promise 8", "BAD as in inside");
        for (int engine = 0; engine < RECTANGLE_ENGINES; engine++) {
            refused("low", rows("add 0", "add 4095"), "count " + engine + " ? 4095 = BAD", WRONG_PLACES);
            refused("high", rows("add 0", "add 4095"), "count " + engine + " 0 ? = BAD", WRONG_PLACES);
        }
        refused("engine", rows("add 5,5"), "count ? 0 4095 = BAD", "-1", "min", "8", "16", "max");
        run("of none", "count * -1 4095 = BAD", "count * 0 4096 = BAD", "count 8 0 4095 = BAD");
        run("all 28, which are not BAD", "28 add 5,5", "count * 0 4095 = 28", "count -1 0 4095 = BAD");
    }

    private static void agree() {
        says("Promise 9", "Whether two engines find the same points in a rectangle");
        run("every two, and each with itself", "add 5,5", "add 9,40", "add 40,9", "agree * * 0,0 9,63 = true");
        run("of none", "agree * * 0 4095 = true");
        run("none in it", "add 5,5", "agree * * 6,6 63,63 = true");
        run("an empty rectangle", "add 5,5", "agree * * 6,5 5,5 = true");
        run("all 28 at one place", "28 add 5,5", "agree * * 5,5 5,5 = true");

        says("Promise 9", "false when inside would be BAD for one of them");
        String[] wrongEngines = {"-1", "min", "8", "16", "max"};
        refused("the first engine", rows("add 5,5"), "agree ? 0 0 4095 = false", wrongEngines);
        refused("the first engine, beside the last,", rows("add 5,5"), "agree ? 7 0 4095 = false", wrongEngines);
        refused("the other engine", rows("add 5,5"), "agree 0 ? 0 4095 = false", wrongEngines);
        refused("the other engine, beside the last,", rows("add 5,5"), "agree 7 ? 0 4095 = false", wrongEngines);
        refused("both engines", rows("add 5,5"), "agree ? ? 0 4095 = false", wrongEngines);
        refused("low", rows("add 5,5"), "agree 2 3 ? 4095 = false", WRONG_PLACES);
        refused("high", rows("add 5,5"), "agree 2 3 0 ? = false", WRONG_PLACES);
        refused("low, for one engine twice,", rows("add 5,5"), "agree 4 4 ? 4095 = false", WRONG_PLACES);
        run("every two engines", "add 5,5", "agree * * -1 4095 = false", "agree * * 0 4096 = false");
        run("of none", "agree 8 8 0 4095 = false", "agree 0 0 -1 4095 = false", "agree 0 0 0 4096 = false");
    }

    private static void nearest() {
        says("Promise 10", "The point nearest to a place");
        run("the only one, over the whole field", "add 63,63", "nearest * 0,0 = 0", "nearest * 63,63 = 0");
        run("at the place itself", "add 5,5", "add 6,5", "nearest * 6,5 = 1", "nearest * 5,5 = 0");
        run("number 27", "27 add 63,63", "add 0,0", "nearest * 1,1 = 27");
        run("the least and the greatest place", "add 30,30", "add 34,34", "nearest * 0 = 0", "nearest * 4095 = 1");
        run("all 28 as near", "28 add 5,5", "nearest * 60,60 = 0");

        says("Promise 10", "BAD when there is none");
        run("in a new object", "nearest * 0 = BAD", "nearest * 4095 = BAD");
        run("when all have gone", "add 5,5", "add 9,9", "remove 1", "remove 0", "nearest * 5,5 = BAD",
            "nearest * 9,9 = BAD");

        says("Promise 10", "place is not 0 .. 4095");
        for (int engine = 0; engine < NEAR_ENGINES; engine++) {
            refused("place", rows("add 0", "add 4095"), "nearest " + engine + " ? = BAD", WRONG_PLACES);
        }
        run("of none", "nearest * -1 = BAD", "nearest * 4096 = BAD");

        says("Promise 10", "or there is no such engine (for near points)");
        refused("engine", rows("add 5,5"), "nearest ? 0 = BAD", "-1", "-4", "min", "4", "5", "6", "7", "8", "max");
        run("of none", "nearest -1 0 = BAD", "nearest 4 0 = BAD");
    }

    private static void ranked() {
        says("Promise 11", "The j-th nearest point to a place (0 the nearest)");
        run("0 the nearest", "add 9,9", "add 5,5", "add 7,7", "ranked 0 0 = 1", "ranked 4095 0 = 0");
        run("the last one", "add 9,9", "add 5,5", "add 7,7", "ranked 0 2 = 0", "ranked 4095 2 = 1");
        run("the only one", "add 63,63", "ranked 0 0 = 0");
        run("the 28th", "add 63,63", "27 add 1,1", "ranked 0 27 = 0", "ranked 4095 27 = 27");
        run("all as near", "28 add 5,5", "ranked 0 0 = 0", "ranked 0 13 = 13", "ranked 0 27 = 27");
        run("numbers that are free don't count", "4 add 5,5", "remove 0", "remove 2", "ranked 0 0 = 1", "ranked 0 1 = 3",
            "ranked 0 2 = BAD");

        says("Promise 11", "BAD when there is none");
        run("of none", "ranked 0 0 = BAD", "ranked 4095 0 = BAD");
        refused("too small,", rows("add 5,5", "add 6,6"), "ranked 0 ? = BAD", "-1", "-2", "-32", "min");
        refused("too large,", rows("add 5,5", "add 6,6"), "ranked 0 ? = BAD", "2", "27", "28", "32", "max");
        refused("too large for 28,", rows("28 add 5,5"), "ranked 0 ? = BAD", "28", "31", "32", "max");
        run("when all have gone", "add 5,5", "remove 0", "ranked 5,5 0 = BAD");

        says("Promise 11", "or place is not 0 .. 4095");
        run("the least and the greatest place", "add 5,5", "ranked 0 0 = 0", "ranked 4095 0 = 0");
        refused("place", rows("add 0", "add 4095"), "ranked ? 0 = BAD", WRONG_PLACES);
        refused("of none, place", rows(), "ranked ? 0 = BAD", WRONG_PLACES);
    }

    private static void square() {
        says("Promise 12", "The square of a place and the point nearest to it");
        run("at the place itself", "add 5,5", "add 9,9", "square 9,9 = 0");
        run("of the nearest, not of the first", "add 63,63", "add 3,4", "square 0 = 25");
        run("over the whole field", "add 63,63", "square 0 = 7938");
        run("the least and the greatest place", "add 0,1", "add 62,63", "square 0 = 1", "square 4095 = 1");

        says("Promise 12", "BAD as in nearest");
        run("when there is none", "square 0 = BAD", "square 4095 = BAD");
        run("when all have gone", "add 5,5", "remove 0", "square 5,5 = BAD");
        refused("place", rows("add 0", "add 4095"), "square ? = BAD", WRONG_PLACES);
        refused("of none, place", rows(), "square ? = BAD", WRONG_PLACES);
    }

    private static void around() {
        says("Promise 13", "The points whose square from a place is at most r");
        run("just r", "add 3,4", "around 0 25 = {0}");
        run("one less than r", "add 3,4", "around 0 26 = {0}");
        run("one more than r", "add 3,4", "around 0 24 = {}");
        run("none there", "around 0 0 = {}", "around 4095 max = {}");
        run("all 28", "28 add 5,5", "around 0 50 = {0..27}", "around 0 49 = {}");

        says("Promise 13", "r (which may be any int)");
        run("0", "add 5,5", "add 5,6", "around 5,5 0 = {0}");
        run("less than 0", "add 5,5", "around 5,5 -1 = {}", "around 5,5 -2 = {}");
        run("the least int", "add 5,5", "around 5,5 min = {}");
        run("the greatest int", "add 5,5", "add 63,63", "around 0 max = {0 1}");
        run("the greatest square, and one less", "add 63,63", "around 0 7938 = {0}", "around 0 7937 = {}");
        run("more than any square", "add 63,63", "around 0 7939 = {0}", "around 0 65536 = {0}");

        says("Promise 13", "BAD when place is not 0 .. 4095");
        run("the least and the greatest place", "add 0", "add 4095", "around 0 0 = {0}", "around 4095 0 = {1}");
        refused("place", rows("add 0", "add 4095"), "around ? max = BAD", WRONG_PLACES);
        refused("r less than 0, place", rows("add 0", "add 4095"), "around ? -1 = BAD", WRONG_PLACES);
        refused("of none, place", rows(), "around ? 0 = BAD", WRONG_PLACES);
    }

    private static void closest() {
        says("Promise 14", "The least square of two different points");
        run("just two", "add 3,4", "add 0,0", "closest = 25");
        run("different points at one place", "add 5,5", "add 5,5", "closest = 0");
        run("a point is not two", "add 5,5", "add 9,5", "closest = 16");
        run("the greatest", "add 0,0", "add 63,63", "closest = 7938");
        closestOfEachTwo();

        says("Promise 14", "BAD when there are not two");
        run("none", "closest = BAD");
        run("one", "add 5,5", "closest = BAD");
        runAfter("the last two, the last one, none", lastTwo(), "closest = 0", "remove 26", "closest = BAD", "remove 27",
            "closest = BAD");
        run("one left of two", "add 5,5", "add 5,5", "remove 0", "closest = BAD");
        run("one moved", "add 5,5", "move 0 6,6", "closest = BAD");
        run("one at each end of its time", "add 5,5", "remove 0", "add 5,5", "closest = BAD", "add 5,6", "closest = 1");
    }

    private static String[] lastTwo() {
        String[] before = new String[POINTS - 1];
        before[0] = "28 add 5,5";
        for (int k = 0; k < POINTS - 2; k++) {
            before[k + 1] = "remove " + k;
        }
        return before;
    }

    /** Whichever two of 28 they are: the others stand at least 10 apart. */
    private static void closestOfEachTwo() {
        for (int a = 0; a < POINTS; a++) {
            for (int b = a + 1; b < POINTS; b++) {
                List<Call> calls = new ArrayList<>();
                for (int k = 0; k < POINTS; k++) {
                    int place = k % 6 * 10 + 64 * (k / 6 * 10);
                    addCalls(calls, "add " + place);
                }
                int besideA = a % 6 * 10 + 1 + 64 * (a / 6 * 10 + 2);
                addCalls(calls, "move " + b + " " + besideA);
                addCalls(calls, "closest = 5");
                runAnswers("points " + a + " and " + b + " of 28", calls);
            }
        }
    }

    private static void staircase() {
        says("Promise 15", "no point has an x and a y that are both at least those of k, and one of them greater");
        run("none", "staircase = {}");
        run("one", "add 0,0", "staircase = {0}");
        run("x greater, y the same", "add 5,5", "add 6,5", "staircase = {1}");
        run("x the same, y greater", "add 5,5", "add 5,6", "staircase = {1}");
        run("both greater", "add 5,5", "add 6,6", "staircase = {1}");
        run("the lesser number greater", "add 6,6", "add 5,5", "staircase = {0}");
        run("both the same: neither is greater", "add 5,5", "add 5,5", "staircase = {0 1}");
        run("x greater, y less", "add 5,5", "add 6,4", "staircase = {0 1}");
        run("x less, y greater", "add 5,5", "add 4,6", "staircase = {0 1}");
        run("the corners", "add 0,0", "add 63,0", "add 0,63", "staircase = {1 2}", "add 63,63", "staircase = {3}");
        run("all 28 at one place", "28 add 5,5", "staircase = {0..27}");
        run("27 at one place below the last", "27 add 5,5", "add 5,6", "staircase = {27}");
        run("27 at one place above the last", "27 add 5,5", "add 5,4", "staircase = {0..26}");
        run("one that has gone no longer counts", "add 5,5", "add 6,6", "remove 1", "staircase = {0}");
        run("one that has moved counts where it is", "add 5,5", "add 6,6", "move 1 6,4", "staircase = {0 1}");
    }

    private static void below() {
        says("Promise 16", "both at most those of point k");
        run("x the same, y less", "add 5,5", "add 5,4", "below 0 = 1", "below 1 = 0");
        run("x less, y the same", "add 5,5", "add 4,5", "below 0 = 1", "below 1 = 0");
        run("both the same", "add 5,5", "add 5,5", "below 0 = 1", "below 1 = 1");
        run("x greater by one, y less", "add 5,5", "add 6,4", "below 0 = 0", "below 1 = 0");
        run("x less, y greater by one", "add 5,5", "add 4,6", "below 0 = 0", "below 1 = 0");
        run("the corners", "add 0,0", "add 63,0", "add 0,63", "add 63,63", "below 0 = 0", "below 1 = 1", "below 2 = 1",
            "below 3 = 3");
        run("one that has gone no longer counts", "add 5,5", "add 4,4", "remove 1", "below 0 = 0");

        says("Promise 16", "itself not counted");
        run("the only one", "add 5,5", "below 0 = 0");
        run("the only one at the first place", "add 0", "below 0 = 0");
        run("all 28 at one place", "28 add 5,5", "below 0 = 27", "below 27 = 27");

        says("Promise 16", "BAD when there is none");
        refused("of none,", rows(), "below ? = BAD", "0", "27");
        refused("beyond the numbers,", rows("28 add 5,5"), "below ? = BAD", WRONG_POINTS);
        run("never added", "add 5,5", "below 1 = BAD", "below 27 = BAD");
        run("taken away", "2 add 5,5", "remove 0", "below 0 = BAD", "below 1 = 0");
    }

    private static void refusals() {
        String[][] states = {
            rows("add 5,5"), rows("add 5,5", "add 40,9", "add 5,5", "remove 1"), rows("14 add 31,31", "14 add 32,32"),
        };
        for (String[] state : states) {
            says("Promise 17", "because a number is not as said there");
            refused("add", state, "add ? = BAD", WRONG_PLACES);
            refused("move", state, "move 0 ? = BAD", WRONG_PLACES);
            refused("ranked", state, "ranked ? 0 = BAD", WRONG_PLACES);
            refused("square", state, "square ? = BAD", WRONG_PLACES);
            refused("around", state, "around ? 9 = BAD", WRONG_PLACES);
            for (int engine = 0; engine < RECTANGLE_ENGINES; engine++) {
                refused("inside, low", state, "inside " + engine + " ? 0 = BAD", "-1", "4096");
                refused("inside, high", state, "inside " + engine + " 0 ? = BAD", "-1", "4096");
                refused("count, low", state, "count " + engine + " ? 0 = BAD", "-1", "4096");
                refused("count, high", state, "count " + engine + " 0 ? = BAD", "-1", "4096");
                refused("agree", state, "agree " + engine + " ? 0 4095 = false", "-1", "8");
            }
            for (int engine = 0; engine < NEAR_ENGINES; engine++) {
                refused("nearest", state, "nearest " + engine + " ? = BAD", WRONG_PLACES);
            }
            refused("inside, engine", state, "inside ? 0 4095 = BAD", "-1", "8");
            refused("count, engine", state, "count ? 0 4095 = BAD", "-1", "8");
            refused("nearest, engine", state, "nearest ? 0 = BAD", "-1", "4");

            says("Promise 17", "something is not there");
            refused("remove", state, "remove ? = BAD", WRONG_POINTS);
            refused("move", state, "move ? 9 = BAD", WRONG_POINTS);
            refused("at", state, "at ? = BAD", WRONG_POINTS);
            refused("below", state, "below ? = BAD", WRONG_POINTS);
            refused("ranked", state, "ranked 0 ? = BAD", "-1", "28", "min", "max");
        }
        String[] gone = {"add 5,5", "add 40,9", "add 5,5", "remove 1"};
        refused("remove of one that has gone,", gone, "remove ? = BAD", "1", "3", "27");
        refused("move of one that has gone,", gone, "move ? 9 = BAD", "1", "3", "27");
        refused("at of one that has gone,", gone, "at ? = BAD", "1", "3", "27");
        refused("below of one that has gone,", gone, "below ? = BAD", "1", "3", "27");
        run("closest of one", "add 5,5", "closest = BAD");
        run("of none", "remove 0 = BAD", "move 0 9 = BAD", "at 0 = BAD", "below 0 = BAD", "nearest * 0 = BAD",
            "ranked 0 0 = BAD", "square 0 = BAD", "closest = BAD");

        says("Promise 17", "or a limit is reached");
        refused("add", states[2], "add ? = FULL", "0", "31,31", "4095");
        run("add, often", "28 add 5,5", "60 add 6,6 = FULL", "points = {0..27}", "remove 27 = 5,5", "add 6,6 = 27");
    }

    public static void main(String[] args) {
        whatItIs();
        termsOfPoints();
        termsOfRectangles();
        termsOfSquares();
        termsOfEngines();
        newObject();
        add();
        remove();
        move();
        at();
        points();
        inside();
        count();
        agree();
        nearest();
        ranked();
        square();
        around();
        closest();
        staircase();
        below();
        refusals();
        String faults = wrong == 0 ? "all answers are as due" : wrong + " answers are not as due";
        System.out.println(faults + " in " + runs + " runs");
        if (wrong != 0) {
            System.exit(1);
        }
    }
}
