/** Each promise of the document by hand: ordinary inputs, the edges that it names, and wrong inputs. */
public final class RangeSuitePromises {
    private static final int ALL = (1 << 28) - 1;
    private static final int[] WRONG_PLACES = {-1, 4096, 4097, -4096, 1 << 20, Integer.MIN_VALUE, Integer.MAX_VALUE};
    private static final int[] WRONG_POINTS = {-1, -32, 28, 31, 32, 33, 64, Integer.MIN_VALUE, Integer.MAX_VALUE};
    private static final int[] WRONG_ENGINES = {-1, 8, 9, 16, 256, Integer.MIN_VALUE, Integer.MAX_VALUE};

    private static int wrong = 0;
    private static int promise = 0;

    private static void due(String call, long got, long want) {
        if (got != want) {
            wrong++;
            System.out.println("promise " + promise + ": " + call + " answered " + got + ", due is " + want);
        }
    }

    private static void due(String call, boolean got, boolean want) {
        due(call, got ? 1 : 0, want ? 1 : 0);
    }

    private static int p(int x, int y) {
        return x + 64 * y;
    }

    private static RangeSuite with(int... places) {
        RangeSuite suite = new RangeSuite();
        for (int place : places) {
            suite.add(place);
        }
        return suite;
    }

    private static RangeSuite full(int place) {
        RangeSuite suite = new RangeSuite();
        for (int k = 0; k < 28; k++) {
            suite.add(place);
        }
        return suite;
    }

    private static void newObject() {
        promise = 1;
        RangeSuite s = new RangeSuite();
        due("points()", s.points(), 0);
        for (int k = 0; k < 28; k++) {
            due("at(" + k + ")", s.at(k), -1);
        }
        for (int engine = 0; engine < 8; engine++) {
            due("inside(" + engine + ", 0, 4095)", s.inside(engine, 0, 4095), 0);
        }
        RangeSuite used = with(1, 2, 3);
        due("points() of another object", new RangeSuite().points(), 0);
        due("points() of the used object", used.points(), 7);
        due("BAD", RangeSuite.BAD, -1);
        due("FULL", RangeSuite.FULL, -2);
    }

    private static void add() {
        promise = 2;
        RangeSuite s = new RangeSuite();
        due("add(0)", s.add(0), 0);
        due("add(4095)", s.add(4095), 1);
        due("add(4095) again", s.add(4095), 2);
        s.remove(1);
        s.remove(0);
        due("add(7), the least free number", s.add(7), 0);
        due("add(8), the next free number", s.add(8), 1);
        due("add(9), behind the others", s.add(9), 3);
        for (int place : WRONG_PLACES) {
            due("add(" + place + ")", s.add(place), -1);
        }
        due("points() after wrong places", s.points(), 15);
        RangeSuite f = full(5);
        due("add(5) when full", f.add(5), -2);
        due("add(-1) when full", f.add(-1), -1);
        due("add(4096) when full", f.add(4096), -1);
        due("points() when full", f.points(), ALL);
        f.remove(27);
        due("add(6) after remove(27)", f.add(6), 27);
    }

    private static void remove() {
        promise = 3;
        RangeSuite s = with(p(3, 4), p(5, 6), p(63, 63));
        due("remove(1)", s.remove(1), p(5, 6));
        due("remove(1) again", s.remove(1), -1);
        due("remove(3), never added", s.remove(3), -1);
        for (int k : WRONG_POINTS) {
            due("remove(" + k + ")", s.remove(k), -1);
        }
        due("points()", s.points(), 5);
        due("remove(2)", s.remove(2), 4095);
        due("remove(0)", s.remove(0), p(3, 4));
        due("points() when all are gone", s.points(), 0);
        for (int engine = 0; engine < 4; engine++) {
            due("nearest(" + engine + ", 0) when all are gone", s.nearest(engine, 0), -1);
        }
    }

    private static void move() {
        promise = 4;
        RangeSuite s = with(p(3, 4), p(5, 6));
        due("move(0, (9, 9))", s.move(0, p(9, 9)), p(3, 4));
        due("at(0)", s.at(0), p(9, 9));
        due("move(0) to where it is", s.move(0, p(9, 9)), p(9, 9));
        due("move(0, 4095)", s.move(0, 4095), p(9, 9));
        due("move(0, 0)", s.move(0, 0), 4095);
        for (int place : WRONG_PLACES) {
            due("move(0, " + place + ")", s.move(0, place), -1);
        }
        for (int k : WRONG_POINTS) {
            due("move(" + k + ", 1)", s.move(k, 1), -1);
        }
        due("move(2, 1), never added", s.move(2, 1), -1);
        due("at(0) at last", s.at(0), 0);
        due("at(1) at last", s.at(1), p(5, 6));
        due("points() at last", s.points(), 3);
        RangeSuite f = full(9);
        due("move(27, 10) when full", f.move(27, 10), 9);
        due("at(27)", f.at(27), 10);
    }

    private static void at() {
        promise = 5;
        RangeSuite s = with(p(63, 0), p(0, 63), p(17, 42));
        due("at(0)", s.at(0), 63);
        due("at(1)", s.at(1), 4032);
        due("at(2)", s.at(2), p(17, 42));
        due("at(3)", s.at(3), -1);
        for (int k : WRONG_POINTS) {
            due("at(" + k + ")", s.at(k), -1);
        }
        RangeSuite f = full(77);
        due("at(27) when full", f.at(27), 77);
        due("at(28) when full", f.at(28), -1);
        due("at(32) when full", f.at(32), -1);
    }

    private static void points() {
        promise = 6;
        RangeSuite s = with(1, 1, 1, 1);
        due("points()", s.points(), 15);
        s.remove(2);
        due("points() after remove(2)", s.points(), 11);
        s.move(1, 2);
        due("points() after a move", s.points(), 11);
        due("points() when full", full(0).points(), ALL);
    }

    private static void inside() {
        promise = 7;
        RangeSuite s = with(p(10, 10), p(20, 20), p(10, 20), p(20, 10), p(15, 15), p(0, 0), p(63, 63), p(15, 15));
        for (int e = 0; e < 8; e++) {
            String at = " by engine " + e;
            due("whole" + at, s.inside(e, 0, 4095), 255);
            due("edges count" + at, s.inside(e, p(10, 10), p(20, 20)), 0b10011111);
            due("one step in" + at, s.inside(e, p(11, 11), p(19, 19)), 0b10010000);
            due("one step in by x" + at, s.inside(e, p(11, 10), p(19, 20)), 0b10010000);
            due("one step in by y" + at, s.inside(e, p(10, 11), p(20, 19)), 0b10010000);
            due("one place" + at, s.inside(e, p(15, 15), p(15, 15)), 0b10010000);
            due("a column" + at, s.inside(e, p(10, 0), p(10, 63)), 0b101);
            due("a row" + at, s.inside(e, p(0, 10), p(63, 10)), 0b1001);
            due("the first place" + at, s.inside(e, 0, 0), 32);
            due("the last place" + at, s.inside(e, 4095, 4095), 64);
            due("x the wrong way" + at, s.inside(e, p(20, 10), p(10, 20)), 0);
            due("y the wrong way" + at, s.inside(e, p(10, 20), p(20, 10)), 0);
            due("both the wrong way" + at, s.inside(e, p(20, 20), p(10, 10)), 0);
            due("all the wrong way" + at, s.inside(e, 4095, 0), 0);
            due("x by one the wrong way" + at, s.inside(e, p(16, 0), p(15, 63)), 0);
            due("y by one the wrong way" + at, s.inside(e, p(0, 16), p(63, 15)), 0);
            for (int place : WRONG_PLACES) {
                due("low " + place + at, s.inside(e, place, 4095), -1);
                due("high " + place + at, s.inside(e, 0, place), -1);
            }
        }
        for (int e : WRONG_ENGINES) {
            due("inside by engine " + e, s.inside(e, 0, 4095), -1);
        }
        insideAfterChanges();
    }

    private static void insideAfterChanges() {
        RangeSuite s = with(p(8, 8), p(8, 8), p(8, 8), p(30, 8), p(8, 40));
        s.remove(1);
        s.move(0, p(7, 7));
        s.move(3, p(8, 9));
        for (int e = 0; e < 8; e++) {
            due("inside after changes by engine " + e, s.inside(e, p(8, 8), p(8, 9)), 0b1100);
            due("whole after changes by engine " + e, s.inside(e, 0, 4095), 0b11101);
            due("what moved away, by engine " + e, s.inside(e, p(9, 8), p(63, 8)), 0);
        }
    }

    private static void count() {
        promise = 8;
        RangeSuite s = with(p(1, 1), p(2, 2), p(3, 3), p(2, 2));
        for (int e = 0; e < 8; e++) {
            due("count by engine " + e, s.count(e, p(2, 2), p(3, 3)), 3);
            due("count of an empty rectangle by engine " + e, s.count(e, p(3, 3), p(2, 2)), 0);
            due("count of 28 by engine " + e, full(4095).count(e, 0, 4095), 28);
            for (int place : WRONG_PLACES) {
                due("count, low " + place, s.count(e, place, 0), -1);
                due("count, high " + place, s.count(e, 0, place), -1);
            }
        }
        for (int e : WRONG_ENGINES) {
            due("count by engine " + e, s.count(e, 0, 4095), -1);
        }
    }

    private static void agree() {
        promise = 9;
        RangeSuite s = with(p(1, 1), p(2, 2), p(63, 3));
        for (int e = 0; e < 8; e++) {
            for (int o = 0; o < 8; o++) {
                due("agree(" + e + ", " + o + ")", s.agree(e, o, p(1, 1), p(63, 2)), true);
                due("agree(" + e + ", " + o + ") on an empty rectangle", s.agree(e, o, 4095, 0), true);
            }
            for (int o : WRONG_ENGINES) {
                due("agree(" + e + ", " + o + ")", s.agree(e, o, 0, 4095), false);
                due("agree(" + o + ", " + e + ")", s.agree(o, e, 0, 4095), false);
                due("agree(" + o + ", " + o + ")", s.agree(o, o, 0, 4095), false);
            }
            for (int place : WRONG_PLACES) {
                due("agree, low " + place, s.agree(e, e, place, 4095), false);
                due("agree, high " + place, s.agree(e, 0, 0, place), false);
            }
        }
    }

    private static void nearest() {
        promise = 10;
        RangeSuite s = with(p(30, 30), p(10, 10), p(10, 20), p(20, 10), p(10, 10));
        for (int e = 0; e < 4; e++) {
            String at = " by engine " + e;
            due("nearest to a point" + at, s.nearest(e, p(30, 30)), 0);
            due("two points at one place" + at, s.nearest(e, p(9, 9)), 1);
            due("as near, the lesser number" + at, s.nearest(e, p(15, 15)), 1);
            due("as near in y" + at, s.nearest(e, p(10, 15)), 1);
            due("far corner" + at, s.nearest(e, 4095), 0);
            due("other corner" + at, s.nearest(e, p(0, 63)), 2);
            due("nearest in an empty suite" + at, new RangeSuite().nearest(e, 0), -1);
            due("one point far away" + at, with(4095).nearest(e, 0), 0);
            for (int place : WRONG_PLACES) {
                due("nearest to " + place + at, s.nearest(e, place), -1);
            }
        }
        for (int e : WRONG_ENGINES) {
            due("nearest by engine " + e, s.nearest(e, 0), -1);
        }
        for (int e = 4; e < 8; e++) {
            due("nearest by engine " + e + ", which is for rectangles", s.nearest(e, 0), -1);
        }
    }

    private static void ranked() {
        promise = 11;
        RangeSuite s = with(p(40, 0), p(10, 0), p(0, 10), p(6, 8), p(0, 0));
        int[] order = {4, 1, 2, 3, 0};
        for (int j = 0; j < 5; j++) {
            due("ranked(0, " + j + ")", s.ranked(0, j), order[j]);
        }
        for (int j : new int[] {-1, 5, 28, 32, Integer.MIN_VALUE, Integer.MAX_VALUE}) {
            due("ranked(0, " + j + ")", s.ranked(0, j), -1);
        }
        for (int place : WRONG_PLACES) {
            due("ranked(" + place + ", 0)", s.ranked(place, 0), -1);
        }
        s.remove(1);
        due("ranked(0, 1) after remove(1)", s.ranked(0, 1), 2);
        due("ranked(0, 4) after remove(1)", s.ranked(0, 4), -1);
        due("ranked in an empty suite", new RangeSuite().ranked(0, 0), -1);
        RangeSuite f = full(2000);
        for (int j = 0; j < 28; j++) {
            due("ranked(0, " + j + ") of 28 at one place", f.ranked(0, j), j);
        }
    }

    private static void square() {
        promise = 12;
        RangeSuite s = with(p(3, 4), p(60, 60));
        due("square(0)", s.square(0), 25);
        due("square of a point's place", s.square(p(60, 60)), 0);
        due("square(4095)", s.square(4095), 18);
        due("square over the whole field", with(4095).square(0), 7938);
        due("square in an empty suite", new RangeSuite().square(0), -1);
        for (int place : WRONG_PLACES) {
            due("square(" + place + ")", s.square(place), -1);
        }
    }

    private static void around() {
        promise = 13;
        RangeSuite s = with(p(3, 4), p(0, 5), p(5, 1), p(0, 0), p(63, 63));
        due("around(0, 25)", s.around(0, 25), 0b1011);
        due("around(0, 24)", s.around(0, 24), 0b1000);
        due("around(0, 26)", s.around(0, 26), 0b1111);
        due("around(0, 0)", s.around(0, 0), 0b1000);
        due("around(0, -1)", s.around(0, -1), 0);
        due("around(0, least int)", s.around(0, Integer.MIN_VALUE), 0);
        due("around(0, 7937)", s.around(0, 7937), 0b1111);
        due("around(0, 7938)", s.around(0, 7938), 0b11111);
        due("around(0, greatest int)", s.around(0, Integer.MAX_VALUE), 0b11111);
        due("around in an empty suite", new RangeSuite().around(0, 9), 0);
        for (int place : WRONG_PLACES) {
            due("around(" + place + ", 9)", s.around(place, 9), -1);
        }
    }

    private static void closest() {
        promise = 14;
        due("closest() of none", new RangeSuite().closest(), -1);
        due("closest() of one", with(7).closest(), -1);
        due("closest() of two", with(0, 4095).closest(), 7938);
        due("closest() of two at one place", with(9, 9).closest(), 0);
        RangeSuite s = with(p(0, 0), p(50, 50), p(10, 0), p(48, 47));
        due("closest() of four", s.closest(), 13);
        s.remove(1);
        due("closest() of three", s.closest(), 100);
        s.remove(0);
        s.remove(2);
        due("closest() of the one left", s.closest(), -1);
        RangeSuite last = new RangeSuite();
        for (int k = 0; k < 26; k++) {
            last.add(p(2 * k, 0));
        }
        last.add(p(63, 63));
        last.add(p(63, 62));
        due("closest() of the last two of 28", last.closest(), 1);
    }

    private static void staircase() {
        promise = 15;
        due("staircase() of none", new RangeSuite().staircase(), 0);
        due("staircase() of one", with(0).staircase(), 1);
        due("same x, greater y", with(p(5, 5), p(5, 6)).staircase(), 2);
        due("same y, greater x", with(p(6, 5), p(5, 5)).staircase(), 1);
        due("at one place", with(p(6, 5), p(6, 5), p(1, 1)).staircase(), 3);
        RangeSuite s = with(p(1, 9), p(5, 5), p(9, 1), p(4, 4), p(5, 4), p(9, 0));
        due("three steps", s.staircase(), 7);
        s.remove(1);
        due("after remove(1)", s.staircase(), 0b10101);
    }

    private static void below() {
        promise = 16;
        RangeSuite s = with(p(5, 5), p(5, 4), p(4, 5), p(5, 5), p(6, 0), p(0, 6), p(0, 0));
        due("below(0)", s.below(0), 4);
        due("below(1)", s.below(1), 1);
        due("below(3)", s.below(3), 4);
        due("below(6)", s.below(6), 0);
        s.remove(6);
        due("below(1) after remove(6)", s.below(1), 0);
        due("below(6) after remove(6)", s.below(6), -1);
        for (int k : WRONG_POINTS) {
            due("below(" + k + ")", s.below(k), -1);
        }
        due("below(27) of 28 at one place", full(3).below(27), 27);
    }

    private static void refuseAll(RangeSuite s) {
        for (int place : WRONG_PLACES) {
            s.add(place);
            s.move(0, place);
            s.inside(0, place, 0);
            s.count(0, 0, place);
            s.agree(0, 1, place, place);
            s.nearest(0, place);
            s.ranked(place, 0);
            s.square(place);
            s.around(place, 9);
        }
        for (int k : WRONG_POINTS) {
            s.remove(k);
            s.move(k, 5);
            s.at(k);
            s.below(k);
        }
        for (int engine : WRONG_ENGINES) {
            s.inside(engine, 0, 4095);
            s.count(engine, 0, 4095);
            s.agree(engine, 0, 0, 4095);
            s.nearest(engine, 0);
        }
        s.ranked(0, -1);
        s.ranked(0, 28);
    }

    private static void refusals() {
        promise = 17;
        RangeSuite s = with(p(1, 2), p(40, 50), p(7, 7));
        s.remove(1);
        refuseAll(s);
        s.remove(1);
        s.move(1, 9);
        due("points() after refusals", s.points(), 5);
        due("at(0) after refusals", s.at(0), p(1, 2));
        due("at(2) after refusals", s.at(2), p(7, 7));
        for (int e = 0; e < 8; e++) {
            due("inside after refusals by engine " + e, s.inside(e, 0, 4095), 5);
            due("one place after refusals by engine " + e, s.inside(e, p(7, 7), p(7, 7)), 4);
        }
        for (int e = 0; e < 4; e++) {
            due("nearest after refusals by engine " + e, s.nearest(e, p(40, 50)), 2);
        }
        due("add after refusals", s.add(0), 1);
        RangeSuite f = full(100);
        refuseAll(f);
        due("add(4) when full", f.add(4), -2);
        for (int e = 0; e < 8; e++) {
            due("full, after refusals by engine " + e, f.inside(e, 100, 100), ALL);
        }
    }

    public static void main(String[] args) {
        newObject();
        add();
        remove();
        move();
        at();
        points();
        inside();
        count();
        agree();
        nearest();
        ranked();
        square();
        around();
        closest();
        staircase();
        below();
        refusals();
        System.out.println(wrong == 0 ? "all answers are as due" : wrong + " answers are not as due");
        if (wrong != 0) {
            System.exit(1);
        }
    }
}
