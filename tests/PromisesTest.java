/** Each promise of the document by itself, with answers worked out by hand. */
public final class PromisesTest {
    private static final long TOLD = 4000000000000000000L;
    private static final int MIN = Integer.MIN_VALUE;
    private static final int MAX = Integer.MAX_VALUE;
    private static int passed = 0;
    private static int failed = 0;
    private static int promise = 0;

    private static void due(String call, long got, long want) {
        if (got == want) {
            passed++;
        } else {
            failed++;
            System.out.println("promise " + promise + ": " + call + " answered " + got + ", due is " + want);
        }
    }

    private static int tell(PlantsCommitted x, String text) {
        for (int i = 0; i < text.length(); i++) {
            x.letter(text.charAt(i));
        }
        return x.tells();
    }

    private static PlantsCommitted told(String text) {
        PlantsCommitted x = new PlantsCommitted();
        if (tell(x, text) < 0) {
            throw new IllegalStateException(text);
        }
        return x;
    }

    /** Asked 4, 9 (1 kept), 3. BEST: plant 0 in hour 1, plant 1 all along: 4, 13 and 5 for the start, 3. */
    private static PlantsCommitted two() {
        return told("h3;p0,0;p0,0;g0=2,10;c0=2,1,5;g1=0,6;c1=1,0,3;a1+1;d0=4,0;d1=9,1;d2=3,0;");
    }

    /** None, though one plant could in the first hours. */
    private static PlantsCommitted none() {
        return told("h2;p0,0;d0=5,0;d1=11,0;");
    }

    private static PlantsCommitted kinds(int first) {
        PlantsCommitted x = new PlantsCommitted();
        for (int k = first; k < first + 3; k++) {
            x.plant(k, 3);
            x.gives(k - first, 4, 20);
            x.costs(k - first, 2, 6, 15);
        }
        return x;
    }

    private static void refusals(PlantsCommitted x, int nobody, int other, int state, int below, int room) {
        due("count(11)", x.count(11), nobody);
        due("count(12)", x.count(12), other);
        due("count(13)", x.count(13), state);
        due("count(14)", x.count(14), below);
        due("count(15)", x.count(15), 0);
        due("count(16)", x.count(16), room);
    }

    public static void main(String[] args) {
        int n = 0;
        for (Runnable r : new Runnable[] {PromisesTest::aNewObject, PromisesTest::letter, PromisesTest::tells,
            PromisesTest::hours, PromisesTest::demand, PromisesTest::plant, PromisesTest::gives, PromisesTest::costs,
            PromisesTest::times, PromisesTest::age, PromisesTest::merit, PromisesTest::of, PromisesTest::starts,
            PromisesTest::lawful, PromisesTest::rows, PromisesTest::done, PromisesTest::given, PromisesTest::best,
            PromisesTest::row, PromisesTest::cost, PromisesTest::margin, PromisesTest::worth, PromisesTest::hand,
            PromisesTest::likely, PromisesTest::shown, PromisesTest::price, PromisesTest::step, PromisesTest::answer,
            PromisesTest::bound, PromisesTest::rounds, PromisesTest::goes, PromisesTest::repaired,
            PromisesTest::judge, PromisesTest::whatIs, PromisesTest::lots, PromisesTest::list, PromisesTest::put,
            PromisesTest::lays, PromisesTest::pays, PromisesTest::purse, PromisesTest::bills, PromisesTest::rack,
            PromisesTest::racks, PromisesTest::racked, PromisesTest::like, PromisesTest::image, PromisesTest::on,
            PromisesTest::count, PromisesTest::hour}) {
            n++;
            promise = n;
            r.run();
        }
        promise = 0;
        due("promises tested", n, 49);
        System.out.println(passed + " passed, " + failed + " failed");
        if (failed > 0) {
            System.exit(1);
        }
    }

    private static void aNewObject() {
        PlantsCommitted x = new PlantsCommitted();
        due("plants", x.count(0), 0);
        due("h", x.count(1), 4);
        due("merit", x.count(2), 0);
        due("step", x.count(3), 1);
        due("letters", x.count(4), 0);
        due("asked", x.count(5), 0);
        due("purse", x.purse(), 0);
        for (int t = 0; t < 4; t++) {
            for (int what = 0; what < 3; what++) {
                due("hour", x.hour(t, what), 0);
            }
        }
        for (int i = 0; i < 4; i++) {
            due("put", x.put(i, 0, 0), -11);
        }
        for (int i = 0; i < 3; i++) {
            due("racked", x.racked(i, 0, 1), -11);
        }
        due("of", x.of(0, 0), -1);
        due("best", x.best(), 0);
        due("bound", x.bound(), 0);
        due("repaired", x.repaired(-1), 0);
        due("on", x.on(), -3);
        refusals(x, 1, 0, 1, 0, 0);
    }

    private static void letter() {
        PlantsCommitted x = new PlantsCommitted();
        due("letter(-1)", x.letter(-1), -4);
        due("letter(256)", x.letter(256), -6);
        due("letter(MIN)", x.letter(MIN), -4);
        due("letter(0)", x.letter(0), 1);
        due("letter(255)", x.letter(255), 2);
        for (int i = 3; i <= 120; i++) {
            due("letter", x.letter('p'), i);
        }
        due("the 121st", x.letter('p'), -6);
        due("the 121st, below", x.letter(-5), -4);
        due("count(4)", x.count(4), 120);
        refusals(x, 0, 0, 0, 3, 2);
    }

    private static void tells() {
        PlantsCommitted x = new PlantsCommitted();
        due("nothing", x.tells(), -1000);
        String[] faults = {"p", "p1", "p1,", "p1,2", "p1,2;q", "p,", "p1;", "p123,", "g0-", "g0=1;", "c0=1,2;",
            "t0=1,2,", "a0", "a0=1;", "a0+;", "a0+1", "d0=100,", "h;", "h+1;", "h12", "P1,2;", "h1;;", " h1;", "h1; ",
            "a001;", "a0++1;", "a0+-1;", "g0=,1;"};
        int[] places = {1, 2, 3, 4, 5, 1, 2, 3, 2, 4, 6, 6, 2, 2, 3, 4, 5, 1, 1, 3, 0, 3, 0, 3, 3, 3, 3, 3};
        for (int i = 0; i < faults.length; i++) {
            due("'" + faults[i] + "'", tell(x, faults[i]), -1000 - places[i]);
            due("letters", x.count(4), 0);
        }
        String[] wrong = {"p6,0;", "p0,10;", "p0,0;p0,0;p0,0;p0,0;", "p0,0;g1=1,2;", "p0,0;g0=31,40;", "p0,0;g0=5,61;",
            "p0,0;g0=6,5;", "p0,0;c0=10,0,0;", "p0,0;c0=0,31,0;", "p0,0;c0=0,0,51;", "p0,0;t0=0,1;", "p0,0;t0=1,4;",
            "p0,0;a0+0;", "p0,0;a0-0;", "p0,0;a0+5;", "p0,0;a0-5;", "d4=1,1;", "h4;d0=1,21;", "h0;", "h6;", "h2;d2=1,1;",
            "p99,99;", "p0,0;c3=1,1,1;p0,0;", "a0+1;p0,0;"};
        int[] starts = {0, 0, 15, 5, 5, 5, 5, 5, 5, 5, 5, 5, 5, 5, 5, 5, 0, 3, 0, 0, 3, 0, 5, 0};
        for (int i = 0; i < wrong.length; i++) {
            due("'" + wrong[i] + "'", tell(x, wrong[i]), -2000 - starts[i]);
        }
        due("a fault of kind 1 behind one of kind 2", tell(x, "p9,9;h"), -1006);
        due("nothing has come", x.count(0), 0);
        due("h is as it was", x.count(1), 4);
        refusals(x, 0, 0, 0, 0, 0);
        due("h5;d4=99,20;", tell(x, "h5;d4=99,20;"), 2);
        due("hour(4, 0)", x.hour(4, 0), 99);
        due("all of it", tell(x, "p04,09;g0=30,60;c0=9,30,50;t0=3,2;a0-4;p0,0;a1+04;h1;"), 8);
        int[] is = {4, 9, 30, 60, 9, 30, 50, 3, 2, 6};
        for (int i = 0; i < is.length; i++) {
            due("of(0, " + i + ")", x.of(0, i), is[i]);
        }
        due("age of plant 1", x.of(1, 9), 14);
        due("h", x.count(1), 1);
        due("what was told ahead of a fault is undone", tell(x, "p0,0;g0=1,2;c0=1,2,3;t0=1,1;h3;d0=1,1;d3=0,0;"), -2038);
        due("plants", x.count(0), 2);
        due("low", x.of(0, 2), 30);
        due("demand", x.hour(0, 0), 0);
        StringBuilder full = new StringBuilder();
        for (int i = 0; i < 40; i++) {
            full.append("h").append(i % 5 + 1).append(";");
        }
        due("40 statements", tell(x, full.toString()), 40);
        due("h", x.count(1), 5);
    }

    private static void hours() {
        PlantsCommitted x = new PlantsCommitted();
        due("hours(0)", x.hours(0), -4);
        due("hours(6)", x.hours(6), -6);
        due("hours(MIN)", x.hours(MIN), -4);
        due("hours(5)", x.hours(5), 4);
        x.demand(4, 7, 8);
        x.price(4, 9);
        due("hours(1)", x.hours(1), 5);
        due("no hour", x.hour(1, 0), -1);
        due("asked", x.count(5), 0);
        due("hours(5)", x.hours(5), 1);
        due("kept demand", x.hour(4, 0), 7);
        due("kept reserve", x.hour(4, 1), 8);
        due("kept price", x.hour(4, 2), 9);
        refusals(x, 1, 0, 0, 2, 1);
    }

    private static void demand() {
        PlantsCommitted x = new PlantsCommitted();
        due("demand(0, 99, 20)", x.demand(0, 99, 20), 0);
        due("demand(0, 3, 4)", x.demand(0, 3, 4), 9920);
        due("demand(0, 0, 0)", x.demand(0, 0, 0), 304);
        due("demand(4, -1, 21)", x.demand(4, -1, 21), -1);
        due("demand(-1, 1, 1)", x.demand(-1, 1, 1), -1);
        due("demand(3, 100, -1)", x.demand(3, 100, -1), -4);
        due("demand(3, -1, 0)", x.demand(3, -1, 0), -4);
        due("demand(3, 100, 0)", x.demand(3, 100, 0), -6);
        due("demand(3, 0, 21)", x.demand(3, 0, 21), -6);
        due("hour(3, 0)", x.hour(3, 0), 0);
        refusals(x, 2, 0, 0, 2, 2);
    }

    private static void plant() {
        PlantsCommitted x = new PlantsCommitted();
        due("plant(6, -1)", x.plant(6, -1), -2);
        due("plant(-1, 0)", x.plant(-1, 0), -2);
        due("plant(0, -1)", x.plant(0, -1), -4);
        due("plant(0, 10)", x.plant(0, 10), -6);
        due("plant(5, 9)", x.plant(5, 9), 0);
        int[] is = {5, 9, 0, 10, 1, 0, 0, 1, 1, 9, 10, 10};
        for (int i = 0; i < is.length; i++) {
            due("of(0, " + i + ")", x.of(0, i), is[i]);
        }
        due("plant(0, 0)", x.plant(0, 0), 1);
        due("plant(1, 1)", x.plant(1, 1), 2);
        due("no room", x.plant(1, 1), -6);
        due("no room, but below", x.plant(1, -1), -4);
        due("no room, but other", x.plant(-1, 1), -2);
        due("count(0)", x.count(0), 3);
        refusals(x, 0, 3, 0, 2, 2);
    }

    private static void gives() {
        PlantsCommitted x = told("p0,0;");
        due("gives(0, 30, 60)", x.gives(0, 30, 60), 10);
        due("gives(0, 7, 7)", x.gives(0, 7, 7), 3060);
        due("gives(1, -1, 99)", x.gives(1, -1, 99), -1);
        due("gives(-1, 0, 0)", x.gives(-1, 0, 0), -1);
        due("gives(0, -1, 99)", x.gives(0, -1, 99), -4);
        due("gives(0, 31, -1)", x.gives(0, 31, -1), -4);
        due("gives(0, 31, 20)", x.gives(0, 31, 20), -6);
        due("gives(0, 30, 61)", x.gives(0, 30, 61), -6);
        due("gives(0, 8, 7)", x.gives(0, 8, 7), -3);
        due("gives(0, 0, 0)", x.gives(0, 0, 0), 707);
        refusals(x, 2, 0, 1, 2, 2);
    }

    private static void costs() {
        PlantsCommitted x = told("p0,0;");
        due("costs(0, 9, 30, 50)", x.costs(0, 9, 30, 50), 10000);
        due("costs(0, 1, 2, 3)", x.costs(0, 1, 2, 3), 93050);
        due("costs(1, -1, 0, 0)", x.costs(1, -1, 0, 0), -1);
        due("costs(0, -1, 31, 0)", x.costs(0, -1, 31, 0), -4);
        due("costs(0, 10, -1, 0)", x.costs(0, 10, -1, 0), -4);
        due("costs(0, 0, 31, -1)", x.costs(0, 0, 31, -1), -4);
        due("costs(0, 10, 0, 0)", x.costs(0, 10, 0, 0), -6);
        due("costs(0, 0, 31, 0)", x.costs(0, 0, 31, 0), -6);
        due("costs(0, 0, 0, 51)", x.costs(0, 0, 0, 51), -6);
        due("costs(0, 0, 0, 0)", x.costs(0, 0, 0, 0), 10203);
        refusals(x, 1, 0, 0, 3, 3);
    }

    private static void times() {
        PlantsCommitted x = told("p0,0;");
        due("times(0, 3, 2)", x.times(0, 3, 2), 11);
        due("times(0, 1, 3)", x.times(0, 1, 3), 32);
        due("times(1, 0, 0)", x.times(1, 0, 0), -1);
        due("times(0, 0, 4)", x.times(0, 0, 4), -4);
        due("times(0, 4, 0)", x.times(0, 4, 0), -4);
        due("times(0, 4, 1)", x.times(0, 4, 1), -6);
        due("times(0, 1, 4)", x.times(0, 1, 4), -6);
        due("times(0, 1, 1)", x.times(0, 1, 1), 13);
        refusals(x, 1, 0, 0, 2, 2);
    }

    private static void age() {
        PlantsCommitted x = told("p0,0;");
        due("age(0, 4)", x.age(0, 4), 9);
        due("age(0, -4)", x.age(0, -4), 14);
        due("age(1, 0)", x.age(1, 0), -1);
        due("age(0, -5)", x.age(0, -5), -4);
        due("age(0, 5)", x.age(0, 5), -6);
        due("age(0, 0)", x.age(0, 0), -3);
        due("age(0, 1)", x.age(0, 1), 6);
        refusals(x, 1, 0, 1, 1, 1);
    }

    private static void merit() {
        PlantsCommitted x = told("h1;p0,0;p0,0;c0=5,0,0;g1=0,20;c1=6,0,0;p0,0;c2=5,0,0;g2=0,20;d0=12,0;");
        due("by price plant 0", x.given(0, 7, 0), 10);
        due("by price plant 2 ahead of 1", x.given(0, 7, 2), 2);
        due("merit(1)", x.merit(1), 0);
        due("by size plant 1", x.given(0, 7, 1), 12);
        due("by size plant 2", x.given(0, 7, 2), 0);
        due("merit(2)", x.merit(2), 1);
        due("by number plant 0", x.given(0, 7, 0), 10);
        due("by number plant 1", x.given(0, 7, 1), 2);
        due("merit(3)", x.merit(3), -2);
        due("merit(-1)", x.merit(-1), -2);
        due("merit(0)", x.merit(0), 2);
        refusals(x, 0, 2, 0, 0, 0);
    }

    private static void of() {
        PlantsCommitted x = kinds(0);
        due("of(0, 11)", x.of(0, 11), 20);
        due("of(1, 11)", x.of(1, 11), 20);
        due("of(2, 11)", x.of(2, 11), 7);
        due("of(2, 10)", x.of(2, 10), 4);
        x.gives(2, 4, 6);
        due("HIGH at most", x.of(2, 11), 6);
        PlantsCommitted y = kinds(3);
        due("BASE", y.of(0, 11), 7);
        due("SPARE", y.of(1, 11), 20);
        due("FULL", y.of(2, 11), 20);
        due("FULL's least", y.of(2, 10), 20);
        due("FULL's low", y.of(2, 2), 4);
        due("of(3, 12)", y.of(3, 12), -1);
        due("of(-1, 0)", y.of(-1, 0), -1);
        due("of(0, 12)", y.of(0, 12), -2);
        due("of(0, -1)", y.of(0, -1), -2);
        refusals(y, 2, 2, 0, 0, 0);
    }

    private static void starts() {
        int[][] want = {{15, 15, 15, 15}, {18, 21, 27, 27}, {15, 15, 15, 15}, {30, 30, 30, 30}, {9, 21, 27, 27}, {30, 30, 30, 30}};
        int[] behind = {1, 2, 4, 9};
        for (int k = 0; k < 6; k++) {
            PlantsCommitted x = kinds(k < 3 ? 0 : 3);
            for (int i = 0; i < 4; i++) {
                due("starts of kind " + k, x.starts(k % 3, behind[i]), want[k][i]);
            }
        }
        PlantsCommitted x = told("p4,4;c0=0,0,7;");
        due("half, cut", x.starts(0, 1), 5);
        due("starts(1, 0)", x.starts(1, 0), -1);
        due("starts(0, 0)", x.starts(0, 0), -4);
        due("starts(0, 10)", x.starts(0, 10), -6);
        refusals(x, 1, 0, 0, 1, 1);
    }

    private static void lawful() {
        PlantsCommitted x = told("h5;p0,0;t0=2,3;a0+1;p3,1;a1-2;t1=1,3;p2,0;t2=3,1;a2-4;");
        due("must stay on one hour", x.lawful(0, 0), 0);
        due("on one hour more", x.lawful(0, 1), 1);
        due("on again too soon", x.lawful(0, 0b01001), 0);
        due("on again behind 3 off", x.lawful(0, 0b10001), 1);
        due("the last run may be short", x.lawful(0, 0b10001), 1);
        due("all on", x.lawful(0, 31), 1);
        due("BASE: on too soon", x.lawful(1, 31), 0);
        due("BASE: on behind 3", x.lawful(1, 30), 1);
        due("BASE never goes off", x.lawful(1, 0b01110), 0);
        due("SLOW goes off behind 3", x.lawful(2, 0b00111), 1);
        due("SLOW goes off behind 2", x.lawful(2, 0b00011), 0);
        due("lawful(3, -1)", x.lawful(3, -1), -1);
        due("lawful(0, -1)", x.lawful(0, -1), -4);
        due("lawful(0, 32)", x.lawful(0, 32), -6);
        x.hours(1);
        due("lawful(0, 2)", x.lawful(0, 2), -6);
        due("lawful(0, 1)", x.lawful(0, 1), 1);
        refusals(x, 1, 0, 0, 1, 2);
    }

    private static void rows() {
        PlantsCommitted x = told("h3;p5,0;t0=1,2;a0-1;p0,0;");
        int[] full = {0, 4, 6};
        due("rows(0, -1)", x.rows(0, -1), 3);
        for (int i = 0; i < 3; i++) {
            due("rows(0, " + i + ")", x.rows(0, i), full[i]);
        }
        due("rows(0, 3)", x.rows(0, 3), -3);
        due("rows(0, -2)", x.rows(0, -2), -3);
        due("rows(0, MIN)", x.rows(0, MIN), -3);
        due("rows(2, -2)", x.rows(2, -2), -1);
        due("rows(1, -1)", x.rows(1, -1), 8);
        due("rows(1, 7)", x.rows(1, 7), 7);
        refusals(x, 1, 0, 3, 0, 0);
    }

    private static void done() {
        PlantsCommitted x = two();
        due("done(1, 3)", x.done(1, 3), 13);
        due("done(1, 1)", x.done(1, 1), 19);
        due("done(1, 2)", x.done(1, 2), -9);
        due("done(1, 0)", x.done(1, 0), -9);
        x.gives(0, 5, 10);
        due("LEAST is too much", x.done(0, 1), -9);
        due("done(3, -1)", x.done(3, -1), -1);
        due("done(0, -1)", x.done(0, -1), -4);
        due("done(0, 4)", x.done(0, 4), -6);
        due("done(0, MIN)", x.done(0, MIN), -4);
        x.demand(0, 0, 0);
        due("nobody for nothing", x.done(0, 0), 0);
        x.demand(0, 6, 0);
        due("just the reserve", x.done(0, 2), 6);
        x.demand(0, 6, 1);
        due("one more kept", x.done(0, 2), -9);
        refusals(x, 1, 0, 0, 2, 1);
        PlantsCommitted y = told("h1;p2,1;g0=3,20;c0=2,5,50;d0=15,5;");
        due("SLOW ones were on ahead of it", y.done(0, 1), 35);
    }

    private static void given() {
        PlantsCommitted x = two();
        due("given(1, 3, 0)", x.given(1, 3, 0), 3);
        due("given(1, 3, 1)", x.given(1, 3, 1), 6);
        due("given(0, 3, 0)", x.given(0, 3, 0), 2);
        due("given(0, 3, 1)", x.given(0, 3, 1), 2);
        due("not in the set", x.given(1, 2, 0), 0);
        due("can't", x.given(1, 2, 1), -9);
        due("given(3, -1, 0)", x.given(3, -1, 0), -1);
        due("given(0, -1, 2)", x.given(0, -1, 2), -1);
        due("given(0, -1, 0)", x.given(0, -1, 0), -4);
        due("given(0, 4, 0)", x.given(0, 4, 0), -6);
        refusals(x, 2, 0, 0, 1, 1);
    }

    private static void best() {
        due("best", two().best(), 25);
        due("none", none().best(), -9);
        PlantsCommitted x = new PlantsCommitted();
        due("of no plants", x.best(), 0);
        x.demand(0, 0, 1);
        due("of no plants, but one kept", x.best(), -9);
        x.hours(5);
        due("none of five hours", x.best(), -9);
        x.demand(0, 0, 0);
        due("five hours", x.best(), 0);
        PlantsCommitted s = told("h2;p3,2;g0=3,20;c0=1,0,9;d0=5,0;d1=20,0;");
        due("BASE goes on with LOW and FIGURE", s.best(), 18 + 25);
        s.demand(0, 6, 0);
        due("and no more", s.best(), -9);
        refusals(x, 0, 0, 0, 0, 0);
    }

    private static void row() {
        PlantsCommitted x = two();
        due("row(0)", x.row(0), 2);
        due("row(1)", x.row(1), 7);
        due("row(2)", x.row(2), -1);
        due("row(-1)", x.row(-1), -1);
        due("none", none().row(0), -9);
        due("none, and nobody", none().row(1), -1);
        PlantsCommitted y = told("h2;p0,0;p0,0;p0,0;d0=3,0;d1=3,0;");
        due("alike plants: 0", y.row(0), 0);
        due("alike plants: 1", y.row(1), 0);
        due("alike plants: 2", y.row(2), 3);
        refusals(x, 2, 0, 0, 0, 0);
    }

    private static void cost() {
        PlantsCommitted x = two();
        due("cost(0)", x.cost(0), 4);
        due("cost(1)", x.cost(1), 18);
        due("cost(2)", x.cost(2), 3);
        due("cost(3)", x.cost(3), -1);
        due("none", none().cost(0), -9);
        due("none, and nobody", none().cost(2), -1);
        PlantsCommitted y = told("h4;p1,2;c0=1,0,3;a0-3;d0=0,0;d1=5,0;d2=0,0;d3=5,0;");
        y.gives(0, 1, 10);
        due("behind 4 off", y.cost(1), 5 + 3 + 8);
        due("behind 1 off", y.cost(3), 5 + 3 + 2);
        refusals(x, 1, 0, 0, 0, 0);
    }

    private static void margin() {
        PlantsCommitted x = two();
        due("margin(0)", x.margin(0), 1);
        due("margin(1)", x.margin(1), 2);
        due("margin(2)", x.margin(2), 1);
        due("margin(3)", x.margin(3), -1);
        due("nothing has changed", x.hour(1, 0), 9);
        due("none", none().margin(0), -99999);
        PlantsCommitted y = told("h1;p0,0;d0=10,0;");
        due("none so", y.margin(0), -99999);
        PlantsCommitted z = told("h1;p0,0;g0=0,60;p0,0;g1=0,60;d0=99,0;");
        due("one above 99", z.margin(0), 1);
        PlantsCommitted less = told("h1;p0,0;c0=9,0,0;p0,0;g1=8,10;c1=1,0,0;d0=7,0;");
        due("less, with more asked", less.margin(0), 8 - 63);
        refusals(x, 1, 0, 0, 0, 0);
    }

    private static void worth() {
        PlantsCommitted x = two();
        due("worth(0)", x.worth(0), -99999);
        due("worth(1)", x.worth(1), 15);
        due("worth(2)", x.worth(2), -1);
        due("none as it is", none().worth(0), -99999);
        due("nothing has changed", x.best(), 25);
        PlantsCommitted y = told("h2;p3,0;a0+1;c0=1,7,0;p0,0;d0=5,0;d1=5,0;");
        due("its age binds nothing: less without it", y.worth(0), 10 - 24);
        refusals(x, 1, 0, 0, 0, 0);
    }

    private static void hand() {
        due("hand", two().hand(), 6);
        due("none", none().hand(), -9);
        due("no plants", new PlantsCommitted().hand(), 0);
        PlantsCommitted x = told("h2;p0,0;g0=0,60;p0,0;d0=9,0;d1=10,0;");
        due("60", x.hand(), 60);
        x.demand(1, 11, 0);
        due("59", x.hand(), 59);
        due("nothing has changed", x.hour(0, 1), 0);
    }

    private static void likely() {
        PlantsCommitted x = two();
        due("likely(4, 0)", x.likely(4, 0), 3);
        due("likely(4, 1)", x.likely(4, 1), 4);
        due("likely(20, 0)", x.likely(20, 0), 19);
        due("likely(20, 1)", x.likely(20, 1), 20);
        due("likely(1, 2)", x.likely(1, 2), TOLD + 4);
        due("likely(21, 2)", x.likely(21, 2), TOLD + 6);
        due("likely(2, 2)", x.likely(2, 2), TOLD + 2);
        due("likely(2, -1)", x.likely(2, -1), TOLD + 2);
        due("never", none().likely(3, 0), 0);
        due("never by 1", none().likely(3, 1), 1);
        PlantsCommitted y = new PlantsCommitted();
        due("always", y.likely(2, 0), 1);
        due("always by 1", y.likely(2, 1), 1);
        PlantsCommitted z = told("h1;p0,0;p0,0;p0,0;d0=15,0;");
        due("two of three", z.likely(3, 0), 20);
        due("of 27", z.likely(3, 1), 27);
        PlantsCommitted held = told("h1;p5,0;a0+4;p0,0;d0=5,0;");
        due("only without the first", held.likely(3, 0), 2);
        due("of 9", held.likely(3, 1), 9);
        refusals(x, 0, 2, 0, 1, 1);
    }

    private static void shown() {
        PlantsCommitted x = two();
        due("MEAN", x.shown(0), Float.floatToIntBits(25f / 16f));
        due("LEANS", x.shown(1), Float.floatToIntBits(6.5f));
        due("LEANS cut", x.shown(2), 6);
        x.demand(0, 5, 0);
        due("MEAN, no neat number", x.shown(0), Float.floatToIntBits(26f / 17f));
        due("shown(3)", x.shown(3), TOLD + 2);
        due("shown(-1)", x.shown(-1), TOLD + 2);
        due("none", none().shown(1), TOLD + 3);
        PlantsCommitted y = new PlantsCommitted();
        due("nothing asked", y.shown(0), TOLD + 3);
        due("nothing asked: LEANS", y.shown(1), 0);
        due("nothing asked: LEANS cut", y.shown(2), 0);
        PlantsCommitted low = told("h5;p0,0;d0=1,0;");
        due("below 1", low.shown(1), Float.floatToIntBits(1f / 32f));
        due("below 1, cut", low.shown(2), 0);
        low.costs(0, 0, 0, 0);
        due("a MEAN of 0", low.shown(0), 0);
        refusals(x, 0, 2, 0, 0, 0);
        refusals(y, 0, 0, 1, 0, 0);
    }

    private static void price() {
        PlantsCommitted x = new PlantsCommitted();
        due("price(0, 99)", x.price(0, 99), 0);
        due("price(0, 7)", x.price(0, 7), 99);
        due("price(4, -1)", x.price(4, -1), -1);
        due("price(0, -1)", x.price(0, -1), -4);
        due("price(0, 100)", x.price(0, 100), -6);
        due("hour(0, 2)", x.hour(0, 2), 7);
        refusals(x, 1, 0, 0, 1, 1);
    }

    private static void step() {
        PlantsCommitted x = new PlantsCommitted();
        due("step(9)", x.step(9), 1);
        due("step(0)", x.step(0), 9);
        due("step(-1)", x.step(-1), -4);
        due("step(10)", x.step(10), -6);
        due("count(3)", x.count(3), 0);
        refusals(x, 0, 0, 0, 1, 1);
    }

    private static PlantsCommitted priced() {
        PlantsCommitted x = two();
        x.price(0, 5);
        x.price(1, 5);
        return x;
    }

    private static void answer() {
        PlantsCommitted x = priced();
        long[][] want = {{3, -53, 20}, {3, -48, 12}};
        for (int p = 0; p < 2; p++) {
            for (int what = 0; what < 3; what++) {
                due("answer(" + p + ", " + what + ")", x.answer(p, what), want[p][what]);
            }
        }
        due("answer(2, 9)", x.answer(2, 9), TOLD + 1);
        due("answer(0, 3)", x.answer(0, 3), TOLD + 2);
        due("answer(0, -1)", x.answer(0, -1), TOLD + 2);
        PlantsCommitted y = told("h2;p2,1;g0=3,10;c0=4,0,0;");
        y.price(0, 4);
        y.price(1, 9);
        due("its row", y.answer(0, 0), 3);
        due("LEAST at its own price, then MOST of one that was on", y.answer(0, 2), 13);
        due("its net", y.answer(0, 1), -50);
        y.price(0, 5);
        due("LOW and FIGURE as it goes on", y.answer(0, 2), 14);
        refusals(x, 1, 2, 0, 0, 0);
    }

    private static void bound() {
        due("bound", priced().bound(), -36);
        due("bound at no prices", two().bound(), 0);
        PlantsCommitted x = new PlantsCommitted();
        x.hours(5);
        for (int t = 0; t < 5; t++) {
            x.demand(t, 99, 0);
            x.price(t, 99);
        }
        due("without plants", x.bound(), 5 * 9801);
        x.hours(2);
        due("of two hours", x.bound(), 2 * 9801);
    }

    private static void rounds() {
        PlantsCommitted x = priced();
        due("rounds(0, -1)", x.rounds(0, -1), -36);
        due("rounds(0, 1)", x.rounds(0, 1), 5);
        due("rounds(1, -1)", x.rounds(1, -1), -7);
        due("rounds(1, 0)", x.rounds(1, 0), 0);
        due("rounds(1, 1)", x.rounds(1, 1), 0);
        due("rounds(1, 2)", x.rounds(1, 2), 3);
        due("rounds(2, 0)", x.rounds(2, 0), 2);
        due("rounds(2, 1)", x.rounds(2, 1), 4);
        due("rounds(2, 2)", x.rounds(2, 2), 0);
        due("only in thought", x.hour(0, 2), 5);
        due("rounds(-1, -2)", x.rounds(-1, -2), TOLD + 4);
        due("rounds(21, -2)", x.rounds(21, -2), TOLD + 6);
        due("rounds(20, -2)", x.rounds(20, -2), TOLD + 1);
        due("rounds(20, 3)", x.rounds(20, 3), TOLD + 1);
        x.step(0);
        due("no steps", x.rounds(20, 0), 5);
        x.step(9);
        x.price(2, 98);
        x.demand(2, 99, 0);
        due("99 held", x.rounds(1, 2), 99);
        refusals(x, 2, 0, 0, 1, 1);
    }

    private static void goes() {
        PlantsCommitted x = priced();
        due("goes(0)", x.goes(0), 0);
        due("goes(1)", x.goes(1), 3);
        due("hour(2, 2)", x.hour(2, 2), 3);
        PlantsCommitted y = priced();
        due("goes(2)", y.goes(2), 2);
        due("hour(0, 2)", y.hour(0, 2), 2);
        due("hour(1, 2)", y.hour(1, 2), 4);
        due("hour(2, 2)", y.hour(2, 2), 0);
        due("goes(-1)", y.goes(-1), -4);
        due("goes(21)", y.goes(21), -6);
        due("goes(MAX)", y.goes(MAX), -6);
        refusals(y, 0, 0, 0, 1, 2);
    }

    private static void repaired() {
        PlantsCommitted x = priced();
        due("repaired(-1)", x.repaired(-1), 28);
        due("repaired(0)", x.repaired(0), 3);
        due("repaired(1)", x.repaired(1), 7);
        due("repaired(2)", x.repaired(2), -1);
        due("repaired(-2)", x.repaired(-2), -1);
        due("none", none().repaired(-1), -9);
        due("none, and nobody", none().repaired(1), -1);
        PlantsCommitted y = told("h1;p0,0;p0,0;d0=4,0;");
        due("alike sets: the least", y.repaired(0), 1);
        due("alike sets: not the other", y.repaired(1), 0);
        PlantsCommitted held = told("h3;p0,0;t0=3,1;p0,0;c1=0,0,0;g1=3,9;d0=3,0;d1=9,0;d2=0,0;");
        held.gives(0, 1, 9);
        held.costs(0, 0, 0, 0);
        held.costs(1, 1, 0, 0);
        due("what it may not leave binds it later", held.repaired(-1), -9);
        refusals(x, 2, 0, 0, 0, 0);
    }

    private static void judge() {
        PlantsCommitted x = two();
        due("judge(0)", x.judge(0), -11);
        due("judge(4)", x.judge(4), -1);
        due("judge(-1)", x.judge(-1), -1);
        x.list(0, 0);
        due("no rows", x.judge(0), 100);
        x.list(0, 1);
        due("one row", x.judge(0), 101);
        x.list(0, 3);
        due("nobody on", x.judge(0), 0);
        x.put(0, 1, 7);
        due("not the second hour", x.judge(0), 1);
        x.put(0, 0, 2 + 8 + 64);
        due("bits above do not matter", x.judge(0), -9);
        x.put(0, 1, -1);
        due("nor the sign", x.judge(0), -9);
        x.put(0, 1, 3);
        due("not the third hour", x.judge(0), 2);
        x.times(0, 3, 1);
        x.put(0, 1, 7);
        due("goes off too soon", x.judge(0), 2);
        x.times(0, 1, 3);
        due("goes on too soon", x.judge(0), 1);
        PlantsCommitted y = new PlantsCommitted();
        y.list(3, 0);
        due("no plants", y.judge(3), -9);
        y.demand(2, 1, 0);
        due("no plants, but asked", y.judge(3), 2);
        refusals(x, 2, 0, 0, 0, 0);
    }

    private static void whatIs() {
        PlantsCommitted x = told("p1,2;c0=0,0,8;");
        due("whatIs(0, 0, 0)", x.whatIs(0, 0, 0), -11);
        due("whatIs(4, 0, 2)", x.whatIs(4, 0, 2), -1);
        due("whatIs(0, 1, 2)", x.whatIs(0, 1, 2), -1);
        due("whatIs(0, 0, 2)", x.whatIs(0, 0, 2), -2);
        due("whatIs(0, 0, -1)", x.whatIs(0, 0, -1), -2);
        x.list(0, 0);
        due("of none all is so: kinds", x.whatIs(0, 0, 0), 63);
        due("of none all is so: figures", x.whatIs(0, 0, 1), 1023);
        x.list(0, 1);
        x.put(0, 0, 10);
        due("COLD", x.whatIs(0, 0, 0), 2);
        due("2", x.whatIs(0, 0, 1), 4);
        x.put(0, 0, 8);
        due("PLANT, SLOW", x.whatIs(0, 0, 0), 5);
        x.put(0, 0, 16);
        due("BASE, FULL", x.whatIs(0, 0, 0), 40);
        due("8", x.whatIs(0, 0, 1), 256);
        x.put(0, 0, 5);
        due("SPARE", x.whatIs(0, 0, 0), 16);
        due("no figure", x.whatIs(0, 0, 1), 0);
        x.list(1, 6);
        for (int i = 0; i < 6; i++) {
            x.put(1, i, 8 + 2 * Math.min(4, i + 1));
        }
        due("5 and more count as 4", x.whatIs(1, 0, 0), 2);
        x.put(1, 5, 20);
        due("not all of it is so", x.whatIs(1, 0, 0), 0);
        refusals(x, 2, 2, 0, 0, 0);
    }

    private static void lots() {
        PlantsCommitted x = told("h3;p0,0;g0=0,60;c0=2,1,0;a0+1;d0=9,0;");
        int z = -77;
        int found = 0;
        int cost = 0;
        for (int i = 0; i < 20; i++) {
            boolean can = true;
            int sum = 0;
            for (int t = 0; t < 3; t++) {
                z = z * 1664525 + 1013904223;
                int draw = (z & 0x7fffffff) / 256 % 100;
                can &= draw <= 60;
                sum += draw == 0 ? 0 : 2 * draw + 1;
            }
            found += can ? 1 : 0;
            cost += can ? sum : 0;
        }
        due("lots are found at all", found > 0 && found < 20 ? 1 : 0, 1);
        due("lots(20, -77, 0)", x.lots(20, -77, 0), found);
        due("lots(20, -77, 1)", x.lots(20, -77, 1), cost);
        due("each from now", x.hour(0, 0), 9);
        due("lots(0, 0, 2)", x.lots(0, 0, 2), -4);
        due("lots(21, 0, 2)", x.lots(21, 0, 2), -6);
        due("lots(1, 0, 2)", x.lots(1, 0, 2), -2);
        due("lots(1, 0, -1)", x.lots(1, 0, -1), -2);
        refusals(x, 0, 2, 0, 1, 1);
        PlantsCommitted free = told("h2;p0,0;g0=0,60;c0=0,0,0;p0,0;g1=0,60;c1=0,0,0;");
        due("in all there is BEST, for nothing", free.lots(7, 5, 0), 7);
        due("for nothing", free.lots(7, 5, 1), 0);
    }

    private static void list() {
        PlantsCommitted x = two();
        due("list(4, 21)", x.list(4, 21), -1);
        due("list(-1, 1)", x.list(-1, 1), -1);
        due("list(0, 21)", x.list(0, 21), -6);
        due("list(0, -1)", x.list(0, -1), -14);
        due("still missing", x.judge(0), -11);
        due("list(3, 20)", x.list(3, 20), 1);
        due("put(3, 19, 1)", x.put(3, 19, 1), 1);
        x.put(3, 1, 7);
        due("judge", x.judge(3), 1);
        due("list(3, 20)", x.list(3, 20), 1);
        due("all 0", x.judge(3), 0);
        due("list(3, -1)", x.list(3, -1), -14);
        due("as it was", x.put(3, 19, 1), 1);
        due("list(0, 0)", x.list(0, 0), 1);
        refusals(x, 2, 0, 0, 0, 1);
    }

    private static void put() {
        PlantsCommitted x = two();
        due("put(0, 0, 0)", x.put(0, 0, 0), -11);
        due("put(4, 0, 0)", x.put(4, 0, 0), -1);
        x.list(0, 2);
        due("put(0, 2, 0)", x.put(0, 2, 0), -13);
        due("put(0, -1, 0)", x.put(0, -1, 0), -13);
        due("put(0, MAX, 0)", x.put(0, MAX, 0), -13);
        due("put(0, 0, 2)", x.put(0, 0, 2), 1);
        due("put(0, 1, 7)", x.put(0, 1, 7), 1);
        due("judge", x.judge(0), -9);
        refusals(x, 1, 0, 0, 0, 0);
    }

    private static void lays() {
        PlantsCommitted x = two();
        due("lays(0, 0)", x.lays(0, 0), -11);
        due("lays(4, 0)", x.lays(4, 0), -1);
        x.list(0, 2);
        due("lays(0, 0)", x.lays(0, 0), 2);
        due("judge", x.judge(0), -9);
        x.put(0, 0, 0);
        due("only the first has a place", x.lays(0, 1), -13);
        x.put(0, 0, 7);
        x.demand(1, 15, 0);
        due("it is laid: plant 1 has the row of plant 0", x.judge(0), -9);
        x.put(0, 1, 0);
        due("and would not do otherwise", x.judge(0), 1);
        x.list(0, 2);
        due("lays(0, -1)", x.lays(0, -1), -13);
        due("lays(0, 2)", x.lays(0, 2), -13);
        due("lays(0, MAX)", x.lays(0, MAX), -13);
        due("lays(0, MIN)", x.lays(0, MIN), -13);
        due("nothing is laid", x.judge(0), 0);
        due("none", none().lays(0, 0), -3);
        PlantsCommitted y = new PlantsCommitted();
        due("no plants, no list", y.lays(0, 0), -11);
        due("no plants, no list, any place", y.lays(3, 5), -11);
        y.list(1, 1);
        due("no plants, a list", y.lays(1, 0), 0);
        due("no plants, no place is lacked", y.lays(1, -5), 0);
        due("no plants, no place is lacked", y.lays(1, MAX), 0);
        y.list(2, 0);
        due("no plants, an empty list", y.lays(2, 0), 0);
        y.demand(0, 1, 0);
        due("no plants, none", y.lays(1, 0), -3);
        due("no plants, none, no list", y.lays(0, 0), -3);
        due("no such list", y.lays(9, 0), -1);
        refusals(x, 1, 0, 0, 0, 0);
        refusals(y, 1, 0, 2, 0, 0);
    }

    private static void pays() {
        long most = Long.MAX_VALUE;
        long least = Long.MIN_VALUE;
        PlantsCommitted x = new PlantsCommitted();
        due("pays(3, -4)", x.pays(3, -4), 1);
        due("purse", x.purse(), -12);
        x.pays(1, 20);
        due("the least long by -1, which would wrap", x.pays(least, -1), -7);
        due("-1 by the least long", x.pays(-1, least), -7);
        due("purse", x.purse(), 8);
        x.pays(-1, 20);
        due("pays(least, 1)", x.pays(least, 1), -7);
        due("pays(least, -1)", x.pays(least, -1), -7);
        due("pays(-1, least)", x.pays(-1, least), -7);
        due("pays(1L << 32, 1L << 31)", x.pays(1L << 32, 1L << 31), -7);
        due("pays(1L << 32, -(1L << 31)): less 12", x.pays(1L << 32, -(1L << 31)), -7);
        due("pays(most, most)", x.pays(most, most), -7);
        due("pays(0, least)", x.pays(0, least), 1);
        due("pays(least, 0)", x.pays(least, 0), 1);
        due("pays(1, 12)", x.pays(1, 12), 1);
        due("pays(1L << 32, -(1L << 31))", x.pays(1L << 32, -(1L << 31)), 1);
        due("the least long", x.purse(), least);
        due("pays(1, -1)", x.pays(1, -1), -7);
        due("pays(1, most)", x.pays(1, most), 1);
        due("pays(most, 1)", x.pays(most, 1), 1);
        due("purse", x.purse(), most - 1);
        due("pays(2, 1)", x.pays(2, 1), -7);
        due("pays(-1, -1)", x.pays(-1, -1), 1);
        due("the greatest long", x.purse(), most);
        refusals(x, 0, 0, 0, 0, 0);
    }

    private static void purse() {
        PlantsCommitted x = new PlantsCommitted();
        due("purse", x.purse(), 0);
        x.pays(-7, 8);
        due("purse", x.purse(), -56);
    }

    private static void bills() {
        PlantsCommitted x = two();
        due("bills(3)", x.bills(3), 1);
        due("purse", x.purse(), -75);
        due("bills(-2)", x.bills(-2), 1);
        due("purse", x.purse(), -25);
        due("bills(0)", x.bills(0), 1);
        due("bills(MAX)", x.bills(MAX), 1);
        due("purse", x.purse(), -25 - 25L * MAX);
        PlantsCommitted y = two();
        y.pays(Long.MIN_VALUE, 1);
        due("over", y.bills(1), -7);
        due("back", y.bills(-1), 1);
        PlantsCommitted z = two();
        z.pays(Long.MAX_VALUE, 1);
        due("over", z.bills(-1), -7);
        due("as it was", z.purse(), Long.MAX_VALUE);
        PlantsCommitted n = none();
        due("none", n.bills(0), -3);
        refusals(n, 0, 0, 1, 0, 0);
        refusals(y, 0, 0, 0, 0, 0);
    }

    private static void rack() {
        PlantsCommitted x = two();
        due("rack(3, 6, 10)", x.rack(3, 6, 10), -1);
        due("rack(0, 6, 10)", x.rack(0, 6, 10), -2);
        due("rack(0, -1, -1)", x.rack(0, -1, -1), -2);
        due("rack(0, 0, 10)", x.rack(0, 0, 10), -6);
        due("rack(0, 0, -1)", x.rack(0, 0, -1), -14);
        due("still missing", x.racked(0, 0, 1), -11);
        due("rack(0, 0, 9)", x.rack(0, 0, 9), 1);
        for (int i = 0; i < 9; i++) {
            due("racks(0, i, 0)", x.racks(0, i, 0), 1);
        }
        due("rack(0, 0, 9)", x.rack(0, 0, 9), 1);
        for (int i = 0; i < 9; i++) {
            due("all empty", x.racked(0, i, 1), -9);
        }
        due("rack(0, 0, 0)", x.rack(0, 0, 0), 1);
        due("no place", x.racked(0, 0, 1), -13);
        refusals(x, 1, 2, 0, 0, 1);
    }

    private static void racks() {
        boolean[][] fits = {{true, true, true, true, true, true}, {false, true, false, false, true, false},
            {false, false, true, true, false, true}, {false, false, false, true, false, true},
            {false, false, false, false, true, false}, {false, false, false, false, false, true}};
        for (int r = 0; r < 6; r++) {
            for (int k = 0; k < 6; k++) {
                PlantsCommitted x = new PlantsCommitted();
                x.plant(k, 0);
                x.rack(0, r, 1);
                due("kind " + k + " into a rack for " + r, x.racks(0, 0, 0), fits[r][k] ? 1 : -16);
            }
        }
        PlantsCommitted x = told("p0,0;p4,0;c1=0,0,6;");
        due("racks(0, 0, 0)", x.racks(0, 0, 0), -11);
        due("racks(3, 0, 0)", x.racks(3, 0, 0), -1);
        due("racks(0, 0, 2)", x.racks(0, 0, 2), -1);
        due("racks(0, 0, -2)", x.racks(0, 0, -2), -1);
        x.rack(0, 4, 2);
        due("racks(0, 2, 0)", x.racks(0, 2, 0), -13);
        due("racks(0, -1, 1)", x.racks(0, -1, 1), -13);
        due("racks(0, 0, 0)", x.racks(0, 0, 0), -16);
        due("racks(0, 0, 1)", x.racks(0, 0, 1), 1);
        due("what does not fit leaves it", x.racks(0, 0, 0), -16);
        due("racked", x.racked(0, 0, 1), 3);
        due("nothing is laid", x.racks(0, 0, -1), 1);
        due("racked", x.racked(0, 0, 1), -9);
        due("nothing has no place", x.racks(0, 2, -1), -13);
        refusals(x, 3, 0, 0, 0, 0);
    }

    private static void racked() {
        PlantsCommitted x = told("p4,3;c0=0,0,9;");
        x.rack(1, 0, 2);
        due("nothing", x.racked(1, 0, 1), -9);
        x.racks(1, 0, 0);
        x.costs(0, 0, 0, 50);
        due("as it was when laid", x.racked(1, 0, 1), 6);
        due("racked(1, 0, 9)", x.racked(1, 0, 9), 21);
        due("racked(3, 0, 0)", x.racked(3, 0, 0), -1);
        due("racked(2, 0, 0)", x.racked(2, 0, 0), -4);
        due("racked(2, 0, 10)", x.racked(2, 0, 10), -6);
        due("racked(2, 0, 1)", x.racked(2, 0, 1), -11);
        due("racked(1, 2, 1)", x.racked(1, 2, 1), -13);
        due("racked(1, -1, 1)", x.racked(1, -1, 1), -13);
        refusals(x, 1, 0, 0, 1, 1);
    }

    private static void like() {
        PlantsCommitted x = told("p1,1;c0=0,0,9;p0,0;");
        due("like(0, 1)", x.like(0, 1), -11);
        due("like(3, 0)", x.like(3, 0), -1);
        due("like(0, -1)", x.like(0, -1), -1);
        x.rack(1, 1, 3);
        x.racks(1, 0, 0);
        due("like(0, 1)", x.like(0, 1), 3);
        due("what lies there", x.racked(0, 0, 1), 10);
        due("what it is made for", x.racks(0, 1, 1), -16);
        x.racks(1, 0, -1);
        due("as that was then", x.racked(0, 0, 1), 10);
        x.racks(0, 2, 0);
        due("not the other way", x.racked(1, 2, 1), -9);
        due("like itself", x.like(0, 0), 3);
        due("what lies there", x.racked(0, 2, 1), 10);
        due("like a missing one: nothing changes", x.like(0, 2), -11);
        due("what lies there", x.racked(0, 0, 1), 10);
        refusals(x, 2, 0, 0, 0, 0);
    }

    private static void image() {
        PlantsCommitted x = two();
        due("image", x.image(), 2);
        x.plant(0, 0);
        due("image", x.image(), 3);
        due("best", x.best(), 16);
        due("on", x.on(), 3);
        due("none", new PlantsCommitted().image(), 0);
        refusals(x, 0, 0, 0, 0, 0);
    }

    private static void on() {
        PlantsCommitted x = told("h5;d4=3,4;p1,2;g0=3,13;c0=4,5,6;t0=2,3;a0+2;h4;");
        due("no image", x.on(), -3);
        x.pays(1, 77);
        x.merit(2);
        x.step(3);
        x.price(1, 44);
        x.image();
        x.letter('h');
        x.list(0, 1);
        x.rack(0, 0, 1);
        tell(x, "p0,0;g0=1,2;c0=1,2,3;t0=1,1;a0-2;d1=7,7;h5;d4=0,0;");
        x.letter('h');
        x.pays(1, 1);
        x.merit(1);
        x.step(5);
        x.price(1, 5);
        x.price(4, 5);
        due("on", x.on(), 1);
        int[] is = {1, 2, 3, 13, 4, 5, 6, 2, 3, 12};
        for (int i = 0; i < is.length; i++) {
            due("of(0, " + i + ")", x.of(0, i), is[i]);
        }
        due("h", x.count(1), 4);
        due("merit", x.count(2), 2);
        due("step", x.count(3), 3);
        due("letters are not in it", x.count(4), 1);
        due("purse", x.purse(), 77);
        due("demand", x.hour(1, 0), 0);
        due("price", x.hour(1, 2), 44);
        x.hours(5);
        due("what HOURS had, all of it", x.hour(4, 0), 3);
        due("and kept", x.hour(4, 1), 4);
        due("and its price", x.hour(4, 2), 0);
        due("lists are not in it", x.put(0, 0, 1), 1);
        due("racks are not in it", x.racked(0, 0, 1), -9);
        due("refusals are not in it", x.count(13), 1);
        x.gives(0, 0, 1);
        due("on once more", x.on(), 1);
        due("the image is as it was", x.of(0, 3), 13);
    }

    private static void count() {
        PlantsCommitted x = two();
        x.merit(2);
        x.step(7);
        x.letter(';');
        int[] is = {2, 3, 2, 7, 1, 16};
        for (int i = 0; i < is.length; i++) {
            due("count(" + i + ")", x.count(i), is[i]);
        }
        x.hours(2);
        due("of hours that are there", x.count(5), 13);
        for (int what : new int[] {-1, 6, 10, 17, MIN, MAX}) {
            due("count(" + what + ")", x.count(what), -9);
        }
        x.hour(9, 9);
        x.shown(9);
        x.likely(1, 0);
        x.rounds(21, 0);
        x.on();
        x.list(0, -1);
        x.put(0, 0, 0);
        refusals(x, 1, 1, 1, 1, 1);
    }

    private static void hour() {
        PlantsCommitted x = new PlantsCommitted();
        x.demand(3, 5, 6);
        x.price(3, 7);
        due("hour(3, 0)", x.hour(3, 0), 5);
        due("hour(3, 1)", x.hour(3, 1), 6);
        due("hour(3, 2)", x.hour(3, 2), 7);
        due("hour(4, 3)", x.hour(4, 3), -1);
        due("hour(-1, 0)", x.hour(-1, 0), -1);
        due("hour(3, 3)", x.hour(3, 3), -2);
        due("hour(3, -1)", x.hour(3, -1), -2);
        refusals(x, 2, 2, 0, 0, 0);
    }
}
