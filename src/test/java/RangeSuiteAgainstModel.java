import java.util.ArrayList;
import java.util.List;
import java.util.Random;
import java.util.TreeMap;

/** Long runs of drawn calls (the same ones each time), each answer held against the plainest reading of the document. */
public final class RangeSuiteAgainstModel {
    private static final int RUNS = 3000;
    private static final int CALLS = 512;

    private static int wrong = 0;

    private final TreeMap<Integer, Integer> model = new TreeMap<>();
    private final RangeSuite suite = new RangeSuite();
    private final Random draw;
    private final int run;
    private final int spread;

    private RangeSuiteAgainstModel(int run) {
        this.run = run;
        this.draw = new Random(run);
        // Narrow runs crowd the points together, so that places, rows and squares are often the same.
        this.spread = new int[] {64, 64, 24, 9, 3}[run % 5];
    }

    private void due(String call, long got, long want) {
        if (got != want) {
            wrong++;
            if (wrong <= 50) {
                System.out.println("run " + run + ": " + call + " answered " + got + ", due is " + want);
            }
        }
    }

    private static boolean isPlace(int place) {
        return place >= 0 && place <= 4095;
    }

    private static int x(int place) {
        return place & 63;
    }

    private static int y(int place) {
        return place >> 6;
    }

    private static int square(int a, int b) {
        return (x(a) - x(b)) * (x(a) - x(b)) + (y(a) - y(b)) * (y(a) - y(b));
    }

    private int drawPlace() {
        if (draw.nextInt(40) == 0) {
            return new int[] {-1, 4096, Integer.MIN_VALUE, Integer.MAX_VALUE, -64}[draw.nextInt(5)];
        }
        if (draw.nextInt(8) == 0) {
            return draw.nextInt(4096);
        }
        int from = (64 - spread) * (run % 3) / 2;
        return from + draw.nextInt(spread) + 64 * (from + draw.nextInt(spread));
    }

    private int drawPoint() {
        return draw.nextInt(30) == 0 ? draw.nextInt() : draw.nextInt(30) - 1;
    }

    private int drawEngine(int engines) {
        return draw.nextInt(30) == 0 ? draw.nextInt(2) * (engines + 1) - 1 : draw.nextInt(engines);
    }

    private int inside(int engine, int low, int high) {
        if (engine < 0 || engine > 7 || !isPlace(low) || !isPlace(high)) {
            return -1;
        }
        int found = 0;
        for (int k : model.keySet()) {
            int p = model.get(k);
            if (x(p) >= x(low) && x(p) <= x(high) && y(p) >= y(low) && y(p) <= y(high)) {
                found |= 1 << k;
            }
        }
        return found;
    }

    private int ranked(int place, int j) {
        if (!isPlace(place) || j < 0 || j >= model.size()) {
            return -1;
        }
        List<Integer> order = new ArrayList<>(model.keySet());
        // The sort keeps the order of what is the same, and the keys come in the order of the numbers.
        order.sort((a, b) -> square(model.get(a), place) - square(model.get(b), place));
        return order.get(j);
    }

    private void add() {
        int place = drawPlace();
        int free = 0;
        while (model.containsKey(free)) {
            free++;
        }
        int want = !isPlace(place) ? -1 : free == 28 ? -2 : free;
        due("add(" + place + ")", suite.add(place), want);
        if (want >= 0) {
            model.put(want, place);
        }
    }

    private void change() {
        int place = drawPlace();
        int k = drawPoint();
        int kind = draw.nextInt(10);
        if (kind < 4) {
            add();
        } else if (kind < 7) {
            due("remove(" + k + ")", suite.remove(k), model.getOrDefault(k, -1));
            model.remove(k);
        } else {
            boolean done = model.containsKey(k) && isPlace(place);
            due("move(" + k + ", " + place + ")", suite.move(k, place), done ? model.get(k) : -1);
            if (done) {
                model.put(k, place);
            }
        }
    }

    private void askRectangle() {
        int low = drawPlace();
        int high = drawPlace();
        if (draw.nextInt(3) != 0 && isPlace(low) && isPlace(high)) {
            int a = low;
            int b = high;
            low = Math.min(x(a), x(b)) + 64 * Math.min(y(a), y(b));
            high = Math.max(x(a), x(b)) + 64 * Math.max(y(a), y(b));
        }
        int engine = drawEngine(8);
        int other = drawEngine(8);
        int want = inside(engine, low, high);
        String call = "(" + engine + ", " + low + ", " + high + ")";
        due("inside" + call, suite.inside(engine, low, high), want);
        due("count" + call, suite.count(engine, low, high), want == -1 ? -1 : Integer.bitCount(want));
        boolean both = want != -1 && inside(other, low, high) != -1;
        due("agree" + call + " with " + other, suite.agree(engine, other, low, high) ? 1 : 0, both ? 1 : 0);
    }

    private void askNear() {
        int place = drawPlace();
        int engine = drawEngine(4);
        int j = draw.nextInt(31) - 1;
        int r = draw.nextInt(20) == 0 ? draw.nextInt() : draw.nextInt(2 * spread * spread + 2) - 1;
        int first = ranked(place, 0);
        int want = engine < 0 || engine > 3 ? -1 : first;
        due("nearest(" + engine + ", " + place + ")", suite.nearest(engine, place), want);
        due("ranked(" + place + ", " + j + ")", suite.ranked(place, j), ranked(place, j));
        due("square(" + place + ")", suite.square(place), first == -1 ? -1 : square(place, model.get(first)));
        int around = isPlace(place) ? 0 : -1;
        for (int k : model.keySet()) {
            if (around != -1 && square(place, model.get(k)) <= r) {
                around |= 1 << k;
            }
        }
        due("around(" + place + ", " + r + ")", suite.around(place, r), around);
    }

    private void askWhole() {
        int k = drawPoint();
        int set = 0;
        int staircase = 0;
        int closest = -1;
        int below = -1;
        for (int a : model.keySet()) {
            int under = 0;
            boolean topped = false;
            for (int b : model.keySet()) {
                int p = model.get(a);
                int q = model.get(b);
                topped |= p != q && x(q) >= x(p) && y(q) >= y(p);
                under += a != b && x(q) <= x(p) && y(q) <= y(p) ? 1 : 0;
                closest = a != b && (closest == -1 || square(p, q) < closest) ? square(p, q) : closest;
            }
            set |= 1 << a;
            staircase |= topped ? 0 : 1 << a;
            below = a == k ? under : below;
        }
        due("points()", suite.points(), set);
        due("at(" + k + ")", suite.at(k), model.getOrDefault(k, -1));
        due("closest()", suite.closest(), closest);
        due("staircase()", suite.staircase(), staircase);
        due("below(" + k + ")", suite.below(k), below);
    }

    private void go() {
        int calls = 0;
        // Without a start of its own for each run, few would come near to 28 points.
        for (; calls < run % 32; calls++) {
            add();
        }
        // The calls come in bunches of up to five, so the last bunch starts in time to end with call 512.
        while (calls + 5 <= CALLS) {
            int kind = draw.nextInt(4);
            if (kind == 0) {
                change();
                calls += 1;
            } else if (kind == 1) {
                askWhole();
                calls += 5;
            } else if (kind == 2) {
                askRectangle();
                calls += 3;
            } else {
                askNear();
                calls += 4;
            }
        }
    }

    public static void main(String[] args) {
        for (int run = 0; run < RUNS; run++) {
            new RangeSuiteAgainstModel(run).go();
        }
        System.out.println(wrong == 0 ? "all answers are as due" : wrong + " answers are not as due");
        if (wrong != 0) {
            System.exit(1);
        }
    }
}
