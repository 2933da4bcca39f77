import java.util.Arrays;

/**
 * Plants that are switched on and off by hours, and the cheapest plan for them.
 *
 * <p>Every answer below zero that is no amount is a refusal or says that there is nothing. All rows
 * that a call needs are made once, in the constructor: no call makes an object.
 */
public final class PlantsCommitted {
    private static final int NONE = -9;
    private static final int NOBODY = -1;
    private static final int OTHER = -2;
    private static final int STATE = -3;
    private static final int BELOW = -4;
    private static final int ROOM = -6;
    private static final int OVER = -7;
    private static final int MISSING = -11;
    private static final int PLACE = -13;
    private static final int SIZE = -14;
    private static final int UNFIT = -16;
    private static final int NO_DIFFERENCE = -99999;
    private static final long TOLD = 4000000000000000000L;
    private static final int GREATEST_INT = 0x7fffffff;
    private static final long LEAST_LONG = 0x8000000000000000L;

    private static final int MOST_HOURS = 5;
    private static final int MOST_PLANTS = 3;
    private static final int MOST_LETTERS = 120;
    private static final int MOST_REST = 4;
    private static final int MOST_ROUNDS = 20;
    private static final int MOST_LOTS = 20;
    private static final int MOST_HAND = 60;
    private static final int LISTS = 4;
    private static final int RACKS = 3;
    private static final int LIST_ROOM = 20;
    private static final int RACK_ROOM = 9;

    private static final int COLD = 1;
    private static final int SLOW = 2;
    private static final int BASE = 3;
    private static final int SPARE = 4;
    private static final int FULL = 5;
    private static final int KINDS = 6;
    private static final int FIGURES = 10;
    private static final int[] KIND_ABOVE = {-1, 0, 0, 2, 1, 3};

    private final Scene scene = new Scene();
    private final Scene before = new Scene();
    private final Scene taken = new Scene();
    private boolean hasTaken = false;
    private final Teller teller = new Teller();
    private final Dispatch dispatch = new Dispatch();
    private final Walk walk = new Walk(scene, dispatch);
    private final Solver solver = new Solver(scene, dispatch);
    private final Market market = new Market(scene);
    private final Repair repair = new Repair(scene, market, walk);
    private final Line[] lines = new Line[LISTS];
    private final Shelf[] shelves = new Shelf[RACKS];
    private final int[] refusals = new int[7];

    public PlantsCommitted() {
        for (int i = 0; i < LISTS; i++) {
            lines[i] = new Line();
        }
        for (int i = 0; i < RACKS; i++) {
            shelves[i] = new Shelf();
        }
    }

    // ---- hours, plants

    public int letter(int c) {
        if (c < 0) {
            return refuse(BELOW);
        }
        if (c > 255 || teller.many >= MOST_LETTERS) {
            return refuse(ROOM);
        }
        return teller.take(c);
    }

    public int tells() {
        before.copyFrom(scene);
        int answer = teller.readAll();
        if (answer >= 0) {
            answer = teller.applyAll(scene);
        }
        if (answer < 0) {
            scene.copyFrom(before);
        }
        teller.many = 0;
        return answer;
    }

    public int hours(int n) {
        return counted(scene.setSpan(n));
    }

    public int demand(int hour, int demand, int reserve) {
        return counted(scene.setDemand(hour, demand, reserve));
    }

    public int plant(int kind, int figure) {
        return counted(scene.addPlant(kind, figure));
    }

    public int gives(int plant, int low, int high) {
        return counted(scene.setRange(plant, low, high));
    }

    public int costs(int plant, int price, int keep, int start) {
        return counted(scene.setCosts(plant, price, keep, start));
    }

    public int times(int plant, int up, int down) {
        return counted(scene.setTimes(plant, up, down));
    }

    public int age(int plant, int v) {
        return counted(scene.setAge(plant, v));
    }

    public int merit(int v) {
        if (v < 0 || v > 2) {
            return refuse(OTHER);
        }
        int was = scene.merit;
        scene.merit = v;
        return was;
    }

    public int of(int plant, int what) {
        if (scene.noPlant(plant)) {
            return refuse(NOBODY);
        }
        if (what < 0 || what > 11) {
            return refuse(OTHER);
        }
        return scene.plants[plant].figureOf(what);
    }

    public int starts(int plant, int r) {
        if (scene.noPlant(plant)) {
            return refuse(NOBODY);
        }
        if (r < 1) {
            return refuse(BELOW);
        }
        if (r > 9) {
            return refuse(ROOM);
        }
        return scene.plants[plant].startBehind(r);
    }

    public int lawful(int plant, int row) {
        if (scene.noPlant(plant)) {
            return refuse(NOBODY);
        }
        if (row < 0) {
            return refuse(BELOW);
        }
        if (row >= 1 << scene.span) {
            return refuse(ROOM);
        }
        return scene.plants[plant].mayRun(row, scene.span) ? 1 : 0;
    }

    public int rows(int plant, int i) {
        if (scene.noPlant(plant)) {
            return refuse(NOBODY);
        }
        if (i < -1) {
            return refuse(STATE);
        }
        int found = 0;
        for (int row = 0; row < 1 << scene.span; row++) {
            if (scene.plants[plant].mayRun(row, scene.span)) {
                if (found == i) {
                    return row;
                }
                found++;
            }
        }
        return i == -1 ? found : refuse(STATE);
    }

    public int done(int hour, int set) {
        if (scene.noHour(hour)) {
            return refuse(NOBODY);
        }
        int refusal = refusalOfSet(set);
        if (refusal < 0) {
            return refuse(refusal);
        }
        dispatch.ready(scene);
        return dispatch.share(scene.demand[hour], scene.reserve[hour], set, 0);
    }

    public int given(int hour, int set, int plant) {
        if (scene.noHour(hour) || scene.noPlant(plant)) {
            return refuse(NOBODY);
        }
        int refusal = refusalOfSet(set);
        if (refusal < 0) {
            return refuse(refusal);
        }
        if ((set >> plant & 1) == 0) {
            return 0;
        }
        dispatch.ready(scene);
        int cost = dispatch.share(scene.demand[hour], scene.reserve[hour], set, 0);
        return cost < 0 ? NONE : dispatch.shares[plant];
    }

    // ---- the best

    public int best() {
        return solveAsIs();
    }

    public int row(int plant) {
        if (scene.noPlant(plant)) {
            return refuse(NOBODY);
        }
        return solveAsIs() < 0 ? NONE : solver.rows[plant];
    }

    public int cost(int hour) {
        if (scene.noHour(hour)) {
            return refuse(NOBODY);
        }
        if (solveAsIs() < 0) {
            return NONE;
        }
        walk.begin();
        int cost = 0;
        for (int t = 0; t <= hour; t++) {
            cost = walk.pass(t, solver.setAt(t));
        }
        return cost;
    }

    public int margin(int hour) {
        if (scene.noHour(hour)) {
            return refuse(NOBODY);
        }
        int asIs = solveAsIs();
        solver.load();
        solver.demand[hour]++;
        return difference(solver.solve(), asIs);
    }

    public int worth(int plant) {
        if (scene.noPlant(plant)) {
            return refuse(NOBODY);
        }
        int asIs = solveAsIs();
        solver.load();
        solver.there &= ~(1 << plant);
        return difference(solver.solve(), asIs);
    }

    public int hand() {
        if (solveAsIs() < 0) {
            return NONE;
        }
        int can = 0;
        int cannot = MOST_HAND + 1;
        // more in hand only takes sets away, so what can be and what can't lie apart
        for (int i = 0; i < MOST_HAND && cannot - can > 1; i++) {
            int middle = (can + cannot) / 2;
            if (canKeep(middle)) {
                can = middle;
            } else {
                cannot = middle;
            }
        }
        return can;
    }

    public long likely(int t, int part) {
        if (t < 2) {
            return refuseLong(BELOW);
        }
        if (t > 20) {
            return refuseLong(ROOM);
        }
        if (part < 0 || part > 1) {
            return refuseLong(OTHER);
        }
        int above = 0;
        for (int there = 0; there < 1 << scene.many; there++) {
            solver.load();
            solver.there = there;
            if (solver.solve() >= 0) {
                above += power(t - 1, Integer.bitCount(there));
            }
        }
        int below = power(t, scene.many);
        int common = commonDivisor(above, below);
        return part == 0 ? above / common : below / common;
    }

    public long shown(int what) {
        if (what < 0 || what > 2) {
            return refuseLong(OTHER);
        }
        int cost = solveAsIs();
        int asked = scene.demandOfAll();
        if (cost < 0 || what == 0 && asked == 0) {
            return refuseLong(STATE);
        }
        if (what == 0) {
            return bitsOf((float) cost / (float) asked);
        }
        float leans = leansOfBest();
        return what == 1 ? bitsOf(leans) : (int) leans;
    }

    // ---- prices

    public int price(int hour, int v) {
        if (scene.noHour(hour)) {
            return refuse(NOBODY);
        }
        if (v < 0) {
            return refuse(BELOW);
        }
        if (v > 99) {
            return refuse(ROOM);
        }
        int was = scene.price[hour];
        scene.price[hour] = v;
        return was;
    }

    public int step(int v) {
        if (v < 0) {
            return refuse(BELOW);
        }
        if (v > 9) {
            return refuse(ROOM);
        }
        int was = scene.step;
        scene.step = v;
        return was;
    }

    public long answer(int plant, int what) {
        if (scene.noPlant(plant)) {
            return refuseLong(NOBODY);
        }
        if (what < 0 || what > 2) {
            return refuseLong(OTHER);
        }
        market.begin();
        market.ask();
        if (what == 0) {
            return market.rows[plant];
        }
        return what == 1 ? market.nets[plant] : market.amounts[plant];
    }

    public int bound() {
        return market.run(0);
    }

    public long rounds(int n, int hour) {
        if (n < 0) {
            return refuseLong(BELOW);
        }
        if (n > MOST_ROUNDS) {
            return refuseLong(ROOM);
        }
        if (hour != -1 && scene.noHour(hour)) {
            return refuseLong(NOBODY);
        }
        int greatest = market.run(n);
        return hour == -1 ? greatest : market.prices[hour];
    }

    public int goes(int n) {
        if (n < 0) {
            return refuse(BELOW);
        }
        if (n > MOST_ROUNDS) {
            return refuse(ROOM);
        }
        market.run(n);
        int others = 0;
        for (int t = 0; t < scene.span; t++) {
            if (scene.price[t] != market.prices[t]) {
                scene.price[t] = market.prices[t];
                others++;
            }
        }
        return others;
    }

    public int repaired(int plant) {
        if (plant != -1 && scene.noPlant(plant)) {
            return refuse(NOBODY);
        }
        market.begin();
        market.ask();
        int cost = repair.run();
        return cost < 0 || plant == -1 ? cost : repair.rows[plant];
    }

    // ---- told lists, lots

    public int judge(int list) {
        if (noList(list)) {
            return refuse(NOBODY);
        }
        Line line = lines[list];
        if (line.size < 0) {
            return MISSING;
        }
        if (line.size < scene.many) {
            return 100 + line.size;
        }
        walk.begin();
        for (int t = 0; t < scene.span; t++) {
            if (walk.pass(t, line.setAt(t, scene.many)) < 0) {
                return t;
            }
        }
        return NONE;
    }

    public int whatIs(int list, int plant, int what) {
        if (noList(list) || scene.noPlant(plant)) {
            return refuse(NOBODY);
        }
        if (what < 0 || what > 1) {
            return refuse(OTHER);
        }
        Line line = lines[list];
        if (line.size < 0) {
            return MISSING;
        }
        Plant told = scene.plants[plant];
        int bits = 0;
        for (int i = 0; i < (what == 0 ? KINDS : FIGURES); i++) {
            int kind = what == 0 ? i : told.kind;
            int figure = what == 0 ? told.figure : i;
            if (line.tellsStarts(kind, figure, told.start)) {
                bits |= 1 << i;
            }
        }
        return bits;
    }

    public int lots(int n, int z, int what) {
        if (n < 1) {
            return refuse(BELOW);
        }
        if (n > MOST_LOTS) {
            return refuse(ROOM);
        }
        if (what < 0 || what > 1) {
            return refuse(OTHER);
        }
        int seed = z;
        int found = 0;
        int together = 0;
        for (int i = 0; i < n; i++) {
            solver.load();
            for (int t = 0; t < scene.span; t++) {
                seed = seed * 1664525 + 1013904223;
                solver.demand[t] = (seed & GREATEST_INT) / 256 % 100;
            }
            int cost = solver.solve();
            if (cost >= 0) {
                found++;
                together += cost;
            }
        }
        return what == 0 ? found : together;
    }

    public int list(int list, int n) {
        if (noList(list)) {
            return refuse(NOBODY);
        }
        if (n > LIST_ROOM) {
            return refuse(ROOM);
        }
        if (n < 0) {
            return SIZE;
        }
        lines[list].make(n);
        return 1;
    }

    public int put(int list, int i, int v) {
        if (noList(list)) {
            return refuse(NOBODY);
        }
        if (lines[list].size < 0) {
            return MISSING;
        }
        return lines[list].set(i, v) ? 1 : PLACE;
    }

    public int lays(int list, int i) {
        if (noList(list)) {
            return refuse(NOBODY);
        }
        if (solveAsIs() < 0) {
            return refuse(STATE);
        }
        // the 0 told for no plants goes ahead of no refusal, so it needs a list that is there, too
        if (lines[list].size < 0) {
            return MISSING;
        }
        for (int p = 0; p < scene.many; p++) {
            // where i and p wrap round they are below 0, which is no place either
            if (!lines[list].set(i + p, solver.rows[p])) {
                return PLACE;
            }
        }
        return scene.many;
    }

    // ---- the purse, racks

    public int pays(long n, long v) {
        if (productIsOver(n, v)) {
            return OVER;
        }
        long more = n * v;
        long sum = scene.purse + more;
        if (((scene.purse ^ sum) & (more ^ sum)) < 0) {
            return OVER;
        }
        scene.purse = sum;
        return 1;
    }

    public long purse() {
        return scene.purse;
    }

    public int bills(int n) {
        int cost = solveAsIs();
        if (cost < 0) {
            return refuse(STATE);
        }
        long less = (long) n * cost;
        long left = scene.purse - less;
        if (((scene.purse ^ less) & (scene.purse ^ left)) < 0) {
            return OVER;
        }
        scene.purse = left;
        return 1;
    }

    public int rack(int rack, int kind, int n) {
        if (noRack(rack)) {
            return refuse(NOBODY);
        }
        if (kind < 0 || kind >= KINDS) {
            return refuse(OTHER);
        }
        if (n > RACK_ROOM) {
            return refuse(ROOM);
        }
        if (n < 0) {
            return SIZE;
        }
        shelves[rack].make(kind, n);
        return 1;
    }

    public int racks(int rack, int i, int plant) {
        if (noRack(rack) || plant != -1 && scene.noPlant(plant)) {
            return refuse(NOBODY);
        }
        Shelf shelf = shelves[rack];
        if (shelf.size < 0) {
            return MISSING;
        }
        if (shelf.noPlace(i)) {
            return PLACE;
        }
        if (plant == -1) {
            shelf.full[i] = false;
            return 1;
        }
        if (!scene.plants[plant].isUnder(shelf.kind)) {
            return UNFIT;
        }
        shelf.places[i].copyFrom(scene.plants[plant]);
        shelf.full[i] = true;
        return 1;
    }

    public int racked(int rack, int i, int r) {
        if (noRack(rack)) {
            return refuse(NOBODY);
        }
        if (r < 1) {
            return refuse(BELOW);
        }
        if (r > 9) {
            return refuse(ROOM);
        }
        Shelf shelf = shelves[rack];
        if (shelf.size < 0) {
            return MISSING;
        }
        if (shelf.noPlace(i)) {
            return PLACE;
        }
        return shelf.full[i] ? shelf.places[i].startBehind(r) : NONE;
    }

    public int like(int rack, int other) {
        if (noRack(rack) || noRack(other)) {
            return refuse(NOBODY);
        }
        if (shelves[other].size < 0) {
            return MISSING;
        }
        shelves[rack].copyFrom(shelves[other]);
        return shelves[rack].size;
    }

    // ---- the image, what is told

    public int image() {
        taken.copyFrom(scene);
        hasTaken = true;
        return scene.many;
    }

    public int on() {
        if (!hasTaken) {
            return refuse(STATE);
        }
        scene.copyFrom(taken);
        return scene.many;
    }

    public int count(int what) {
        if (what >= 11 && what <= 16) {
            return refusals[what - 10];
        }
        switch (what) {
            case 0:
                return scene.many;
            case 1:
                return scene.span;
            case 2:
                return scene.merit;
            case 3:
                return scene.step;
            case 4:
                return teller.many;
            case 5:
                return scene.demandOfAll();
            default:
                return NONE;
        }
    }

    public int hour(int hour, int what) {
        if (scene.noHour(hour)) {
            return refuse(NOBODY);
        }
        switch (what) {
            case 0:
                return scene.demand[hour];
            case 1:
                return scene.reserve[hour];
            case 2:
                return scene.price[hour];
            default:
                return refuse(OTHER);
        }
    }

    // ---- what the calls share

    private int refuse(int refusal) {
        if (refusal < 0 && refusal >= ROOM) {
            refusals[-refusal]++;
        }
        return refusal;
    }

    private long refuseLong(int refusal) {
        return TOLD - refuse(refusal);
    }

    private int counted(int answer) {
        return answer < 0 ? refuse(answer) : answer;
    }

    private static boolean noList(int list) {
        return list < 0 || list >= LISTS;
    }

    private static boolean noRack(int rack) {
        return rack < 0 || rack >= RACKS;
    }

    private int refusalOfSet(int set) {
        if (set < 0) {
            return BELOW;
        }
        return set >= 1 << scene.many ? ROOM : 0;
    }

    private int solveAsIs() {
        solver.load();
        return solver.solve();
    }

    private static int difference(int so, int asIs) {
        return so < 0 || asIs < 0 ? NO_DIFFERENCE : so - asIs;
    }

    private boolean canKeep(int more) {
        solver.load();
        for (int t = 0; t < scene.span; t++) {
            solver.reserve[t] += more;
        }
        return solver.solve() >= 0;
    }

    private float leansOfBest() {
        walk.begin();
        float leans = 0f;
        for (int t = 0; t < scene.span; t++) {
            leans = (leans + (float) walk.pass(t, solver.setAt(t))) * 0.5f;
        }
        return leans;
    }

    private static int power(int base, int exponent) {
        int product = 1;
        for (int i = 0; i < exponent; i++) {
            product *= base;
        }
        return product;
    }

    private static int commonDivisor(int a, int b) {
        int x = a;
        int y = b;
        for (int i = 0; i < 64 && x != 0; i++) {
            int rest = y % x;
            y = x;
            x = rest;
        }
        return y < 1 ? 1 : y;
    }

    private static boolean productIsOver(long n, long v) {
        if (v == 0) {
            return false;
        }
        // the least long by -1 wraps to itself, which dividing back would not show
        if (v == -1) {
            return n == LEAST_LONG;
        }
        return n * v / v != n;
    }

    /** The bits of a float that is 0 or neither tiny nor huge: the library's own way is not open here. */
    private static int bitsOf(float f) {
        if (!(f > 0f)) {
            return 0;
        }
        int exponent = 127;
        float scaled = f;
        for (int i = 0; i < 127 && scaled >= 2f; i++) {
            scaled *= 0.5f;
            exponent++;
        }
        for (int i = 0; i < 126 && scaled < 1f; i++) {
            scaled *= 2f;
            exponent--;
        }
        return (exponent << 23) + ((int) (scaled * 8388608f) - 8388608);
    }

    /** One plant. Its age runs on by hours: above 0 so long on, below 0 so long off. */
    private static final class Plant {
        private int kind;
        private int figure;
        private int low;
        private int high;
        private int price;
        private int keep;
        private int start;
        private int up;
        private int down;
        private int age;

        private void begin(int ofKind, int ofFigure) {
            kind = ofKind;
            figure = ofFigure;
            low = 0;
            high = 10;
            price = 1;
            keep = 0;
            start = 0;
            up = 1;
            down = 1;
            age = -1;
        }

        private void copyFrom(Plant other) {
            kind = other.kind;
            figure = other.figure;
            low = other.low;
            high = other.high;
            price = other.price;
            keep = other.keep;
            start = other.start;
            up = other.up;
            down = other.down;
            age = other.age;
        }

        private int figureOf(int what) {
            switch (what) {
                case 0:
                    return kind;
                case 1:
                    return figure;
                case 2:
                    return low;
                case 3:
                    return high;
                case 4:
                    return price;
                case 5:
                    return keep;
                case 6:
                    return start;
                case 7:
                    return up;
                case 8:
                    return down;
                case 9:
                    return age + 10;
                case 10:
                    return least();
                default:
                    return most(true);
            }
        }

        private static boolean kindIsUnder(int kind, int top) {
            int k = kind;
            for (int i = 0; i < KINDS && k >= 0 && k < KINDS; i++) {
                if (k == top) {
                    return true;
                }
                k = KIND_ABOVE[k];
            }
            return false;
        }

        private boolean isUnder(int top) {
            return kindIsUnder(kind, top);
        }

        private static int startOf(int kind, int figure, int start, int r) {
            if (kindIsUnder(kind, BASE)) {
                return 2 * start;
            }
            if (!kindIsUnder(kind, COLD)) {
                return start;
            }
            int cold = start + figure * Math.min(r, MOST_REST);
            return kind == SPARE && r == 1 ? cold / 2 : cold;
        }

        private int startBehind(int r) {
            return startOf(kind, figure, start, r);
        }

        private int least() {
            return kind == FULL ? high : low;
        }

        private int most(boolean goesOn) {
            if (goesOn && kind != FULL && kindIsUnder(kind, SLOW)) {
                return Math.min(low + figure, high);
            }
            return high;
        }

        /** The age behind one hour more, on or off; 0 if it may not go there. */
        private int moved(int from, boolean turnsOn) {
            if (from > 0) {
                if (turnsOn) {
                    return Math.min(from + 1, MOST_REST);
                }
                return from < up || kindIsUnder(kind, BASE) ? 0 : -1;
            }
            if (turnsOn) {
                return -from < down ? 0 : 1;
            }
            return Math.max(from - 1, -MOST_REST);
        }

        private boolean mayRun(int row, int span) {
            int now = age;
            for (int t = 0; t < span && now != 0; t++) {
                now = moved(now, (row >> t & 1) == 1);
            }
            return now != 0;
        }
    }

    /** All that an image keeps. Its setters answer what was, or the refusal, and count nothing. */
    private static final class Scene {
        private int span = 4;
        private final int[] demand = new int[MOST_HOURS];
        private final int[] reserve = new int[MOST_HOURS];
        private final int[] price = new int[MOST_HOURS];
        private final Plant[] plants = new Plant[MOST_PLANTS];
        private int many = 0;
        private int merit = 0;
        private int step = 1;
        private long purse = 0;

        private Scene() {
            for (int p = 0; p < MOST_PLANTS; p++) {
                plants[p] = new Plant();
            }
        }

        private void copyFrom(Scene other) {
            span = other.span;
            System.arraycopy(other.demand, 0, demand, 0, MOST_HOURS);
            System.arraycopy(other.reserve, 0, reserve, 0, MOST_HOURS);
            System.arraycopy(other.price, 0, price, 0, MOST_HOURS);
            for (int p = 0; p < MOST_PLANTS; p++) {
                plants[p].copyFrom(other.plants[p]);
            }
            many = other.many;
            merit = other.merit;
            step = other.step;
            purse = other.purse;
        }

        private boolean noHour(int t) {
            return t < 0 || t >= span;
        }

        private boolean noPlant(int p) {
            return p < 0 || p >= many;
        }

        private int demandOfAll() {
            int sum = 0;
            for (int t = 0; t < span; t++) {
                sum += demand[t];
            }
            return sum;
        }

        private int setSpan(int n) {
            if (n < 1) {
                return BELOW;
            }
            if (n > MOST_HOURS) {
                return ROOM;
            }
            int was = span;
            span = n;
            return was;
        }

        private int setDemand(int t, int asked, int kept) {
            if (noHour(t)) {
                return NOBODY;
            }
            if (asked < 0 || kept < 0) {
                return BELOW;
            }
            if (asked > 99 || kept > 20) {
                return ROOM;
            }
            int was = 100 * demand[t] + reserve[t];
            demand[t] = asked;
            reserve[t] = kept;
            return was;
        }

        private int addPlant(int kind, int figure) {
            if (kind < 0 || kind >= KINDS) {
                return OTHER;
            }
            if (figure < 0) {
                return BELOW;
            }
            if (figure >= FIGURES || many >= MOST_PLANTS) {
                return ROOM;
            }
            plants[many].begin(kind, figure);
            many++;
            return many - 1;
        }

        private int setRange(int p, int low, int high) {
            if (noPlant(p)) {
                return NOBODY;
            }
            if (low < 0 || high < 0) {
                return BELOW;
            }
            if (low > 30 || high > 60) {
                return ROOM;
            }
            if (low > high) {
                return STATE;
            }
            int was = 100 * plants[p].low + plants[p].high;
            plants[p].low = low;
            plants[p].high = high;
            return was;
        }

        private int setCosts(int p, int each, int keep, int start) {
            if (noPlant(p)) {
                return NOBODY;
            }
            if (each < 0 || keep < 0 || start < 0) {
                return BELOW;
            }
            if (each > 9 || keep > 30 || start > 50) {
                return ROOM;
            }
            int was = 10000 * plants[p].price + 100 * plants[p].keep + plants[p].start;
            plants[p].price = each;
            plants[p].keep = keep;
            plants[p].start = start;
            return was;
        }

        private int setTimes(int p, int up, int down) {
            if (noPlant(p)) {
                return NOBODY;
            }
            if (up < 1 || down < 1) {
                return BELOW;
            }
            if (up > 3 || down > 3) {
                return ROOM;
            }
            int was = 10 * plants[p].up + plants[p].down;
            plants[p].up = up;
            plants[p].down = down;
            return was;
        }

        private int setAge(int p, int v) {
            if (noPlant(p)) {
                return NOBODY;
            }
            if (v < -4) {
                return BELOW;
            }
            if (v > 4) {
                return ROOM;
            }
            if (v == 0) {
                return STATE;
            }
            int was = plants[p].age + 10;
            plants[p].age = v;
            return was;
        }
    }

    /** The letters that have come, read as statements by a place that moves on through them. */
    private static final class Teller {
        private final int[] letters = new int[MOST_LETTERS];
        private int many = 0;
        private int at = 0;
        private int sign = 1;
        private final int[] numbers = new int[4];

        private int take(int c) {
            if (many < MOST_LETTERS) {
                letters[many] = c;
                many++;
            }
            return many;
        }

        private int readAll() {
            at = 0;
            int told = 0;
            // a text without any letter lacks its first statement
            while (told <= MOST_LETTERS && (told == 0 || at < many)) {
                if (!readOne()) {
                    return -1000 - at;
                }
                told++;
            }
            return told;
        }

        private int applyAll(Scene scene) {
            at = 0;
            int told = 0;
            while (told <= MOST_LETTERS && at < many) {
                int first = at;
                int which = letters[first];
                if (!readOne() || applyOne(scene, which) < 0) {
                    return -2000 - first;
                }
                told++;
            }
            return told;
        }

        /** n is a number, ? a sign, each other letter itself. */
        private static String shapeOf(int letter) {
            switch (letter) {
                case 'p':
                    return "n,n;";
                case 'g':
                case 't':
                case 'd':
                    return "n=n,n;";
                case 'c':
                    return "n=n,n,n;";
                case 'a':
                    return "n?n;";
                case 'h':
                    return "n;";
                default:
                    return "";
            }
        }

        /** Reads one statement; if it can't go on, the place stands at the letter that is to blame. */
        private boolean readOne() {
            String shape = shapeOf(here());
            if (shape.isEmpty()) {
                return false;
            }
            at++;
            int read = 0;
            for (int i = 0; i < shape.length(); i++) {
                char part = shape.charAt(i);
                boolean fits;
                if (part == 'n' && read < numbers.length) {
                    fits = readNumber(read);
                    read++;
                } else if (part == '?') {
                    fits = readSign();
                } else {
                    fits = readLetter(part);
                }
                if (!fits) {
                    return false;
                }
            }
            return true;
        }

        private int here() {
            return at >= 0 && at < many && at < MOST_LETTERS ? letters[at] : -1;
        }

        private boolean isDigit() {
            return here() >= '0' && here() <= '9';
        }

        private boolean readNumber(int read) {
            if (!isDigit()) {
                return false;
            }
            int value = here() - '0';
            at++;
            if (isDigit()) {
                value = 10 * value + here() - '0';
                at++;
            }
            numbers[read] = value;
            return true;
        }

        private boolean readSign() {
            if (here() != '+' && here() != '-') {
                return false;
            }
            sign = here() == '+' ? 1 : -1;
            at++;
            return true;
        }

        private boolean readLetter(char due) {
            if (here() != due) {
                return false;
            }
            at++;
            return true;
        }

        private int applyOne(Scene scene, int which) {
            switch (which) {
                case 'p':
                    return scene.addPlant(numbers[0], numbers[1]);
                case 'g':
                    return scene.setRange(numbers[0], numbers[1], numbers[2]);
                case 'c':
                    return scene.setCosts(numbers[0], numbers[1], numbers[2], numbers[3]);
                case 't':
                    return scene.setTimes(numbers[0], numbers[1], numbers[2]);
                case 'a':
                    return scene.setAge(numbers[0], sign * numbers[1]);
                case 'd':
                    return scene.setDemand(numbers[0], numbers[1], numbers[2]);
                default:
                    return scene.setSpan(numbers[0]);
            }
        }
    }

    /** Shares what is asked in one hour among the plants that are on. */
    private static final class Dispatch {
        private final int[] order = new int[MOST_PLANTS];
        private final int[] least = new int[MOST_PLANTS];
        private final int[] most = new int[MOST_PLANTS];
        private final int[] mostAtFirst = new int[MOST_PLANTS];
        private final int[] price = new int[MOST_PLANTS];
        private final int[] keep = new int[MOST_PLANTS];
        private final int[] shares = new int[MOST_PLANTS];
        private int many = 0;

        /** Must be called behind each change of plants or of their merit, ahead of share. */
        private void ready(Scene scene) {
            many = scene.many;
            for (int p = 0; p < many; p++) {
                Plant plant = scene.plants[p];
                least[p] = plant.least();
                most[p] = plant.most(false);
                mostAtFirst[p] = plant.most(true);
                price[p] = plant.price;
                keep[p] = plant.keep;
                int place = p;
                while (place > 0 && comesAhead(plant, scene.plants[order[place - 1]], scene.merit)) {
                    order[place] = order[place - 1];
                    place--;
                }
                order[place] = p;
            }
        }

        private static boolean comesAhead(Plant later, Plant earlier, int merit) {
            if (merit == 0) {
                return later.price < earlier.price;
            }
            return merit == 1 && later.high > earlier.high;
        }

        /** What it costs but for starts, the shares of the set being left in the row; NONE if it can't. */
        private int share(int demand, int reserve, int set, int goOn) {
            int leastOfAll = 0;
            int mostOfAll = 0;
            int cost = 0;
            for (int p = 0; p < many; p++) {
                if ((set >> p & 1) == 1) {
                    leastOfAll += least[p];
                    mostOfAll += mostOf(p, goOn);
                    cost += keep[p] + price[p] * least[p];
                }
            }
            if (leastOfAll > demand || mostOfAll < demand + reserve) {
                return NONE;
            }
            int left = demand - leastOfAll;
            for (int i = 0; i < many; i++) {
                int p = order[i];
                if ((set >> p & 1) == 1) {
                    int more = Math.min(left, mostOf(p, goOn) - least[p]);
                    shares[p] = least[p] + more;
                    cost += price[p] * more;
                    left -= more;
                }
            }
            return cost;
        }

        private int mostOf(int p, int goOn) {
            return (goOn >> p & 1) == 1 ? mostAtFirst[p] : most[p];
        }
    }

    /** Takes the plants through the hours, set by set, as the hours are asked now. */
    private static final class Walk {
        private final Dispatch dispatch;
        private final Scene scene;
        private final int[] ages = new int[MOST_PLANTS];

        private Walk(Scene scene, Dispatch dispatch) {
            this.scene = scene;
            this.dispatch = dispatch;
        }

        private void begin() {
            dispatch.ready(scene);
            for (int p = 0; p < scene.many; p++) {
                ages[p] = scene.plants[p].age;
            }
        }

        /** What the hour costs, starts too; NONE if some plant may not go there or the set can't. */
        private int tried(int t, int set) {
            int goOn = 0;
            int starts = 0;
            for (int p = 0; p < scene.many; p++) {
                boolean turnsOn = (set >> p & 1) == 1;
                if (scene.plants[p].moved(ages[p], turnsOn) == 0) {
                    return NONE;
                }
                if (turnsOn && ages[p] < 0) {
                    goOn |= 1 << p;
                    starts += scene.plants[p].startBehind(-ages[p]);
                }
            }
            int cost = dispatch.share(scene.demand[t], scene.reserve[t], set, goOn);
            return cost < 0 ? NONE : cost + starts;
        }

        private int pass(int t, int set) {
            int cost = tried(t, set);
            if (cost >= 0) {
                for (int p = 0; p < scene.many; p++) {
                    ages[p] = scene.plants[p].moved(ages[p], (set >> p & 1) == 1);
                }
            }
            return cost;
        }
    }

    /**
     * Finds BEST hour by hour over all the states in which the plants can be together. A key is the
     * cost so far above 15 bits with the rows so far, plant 0's above: the least key is the plan
     * that the document asks for, as alike states go on alike. Costs stay under 2 to the 14th.
     */
    private static final class Solver {
        private static final int FREE = GREATEST_INT;
        private static final int ROW_BITS = 15;
        private static final int MOST_STATES = 7;

        private final Dispatch dispatch;
        private final Scene scene;
        private final int[] demand = new int[MOST_HOURS];
        private final int[] reserve = new int[MOST_HOURS];
        private int there = 0;
        private final int[] rows = new int[MOST_PLANTS];
        private final int[] states = new int[MOST_PLANTS];
        // of each plant, by 2 times its state and 1 for on: whereto (-1 nowhere), how, what its start adds
        private final int[][] to = new int[MOST_PLANTS][2 * MOST_STATES];
        private final int[][] mode = new int[MOST_PLANTS][2 * MOST_STATES];
        private final int[][] toll = new int[MOST_PLANTS][2 * MOST_STATES];
        // by the modes of plants (0 off, 1 on, 2 goes on) as digits
        private final int[] hourCosts = new int[27];
        private int[] now = new int[MOST_STATES * MOST_STATES * MOST_STATES];
        private int[] then = new int[MOST_STATES * MOST_STATES * MOST_STATES];

        private Solver(Scene scene, Dispatch dispatch) {
            this.scene = scene;
            this.dispatch = dispatch;
        }

        /** As the scene is; what is asked and who is there may be changed then, ahead of solve. */
        private void load() {
            System.arraycopy(scene.demand, 0, demand, 0, MOST_HOURS);
            System.arraycopy(scene.reserve, 0, reserve, 0, MOST_HOURS);
            there = (1 << scene.many) - 1;
        }

        private int solve() {
            dispatch.ready(scene);
            int stride = 1;
            int first = 0;
            for (int p = MOST_PLANTS - 1; p >= 0; p--) {
                first += layTables(scene.plants[p], p, stride);
                stride *= states[p];
            }
            Arrays.fill(now, 0, stride, FREE);
            now[first] = 0;
            for (int t = 0; t < scene.span; t++) {
                layHourCosts(t);
                Arrays.fill(then, 0, stride, FREE);
                spread(t);
                int[] swapped = now;
                now = then;
                then = swapped;
            }
            int key = FREE;
            for (int s = 0; s < stride; s++) {
                key = Math.min(key, now[s]);
            }
            return keepRows(key);
        }

        private int keepRows(int key) {
            if (key == FREE) {
                return NONE;
            }
            for (int p = 0; p < MOST_PLANTS; p++) {
                rows[p] = key >> rowShift(p) & 31;
            }
            return key >> ROW_BITS;
        }

        private static int rowShift(int p) {
            return MOST_HOURS * (MOST_PLANTS - 1 - p);
        }

        private int setAt(int t) {
            int set = 0;
            for (int p = 0; p < MOST_PLANTS; p++) {
                set |= (rows[p] >> t & 1) << p;
            }
            return set;
        }

        /** Lays how the plant moves, as far as its hours matter; answers where it is at first. */
        private int layTables(Plant plant, int p, int stride) {
            if ((there >> p & 1) == 0) {
                states[p] = 1;
                layMove(p, 0, 0, 0, 0);
                layMove(p, 1, -1, 0, 0);
                return 0;
            }
            int off = plant.isUnder(COLD) ? MOST_REST : plant.down;
            int on = plant.isUnder(BASE) ? 1 : plant.up;
            states[p] = off + on;
            for (int s = 0; s < off + on; s++) {
                int age = s < off ? -1 - s : s - off + 1;
                int whenOff = plant.moved(age, false);
                int whenOn = plant.moved(age, true);
                boolean starts = age < 0;
                layMove(p, 2 * s, placeOf(whenOff, off, on, stride), 0, 0);
                layMove(p, 2 * s + 1, placeOf(whenOn, off, on, stride), starts ? 2 : 1,
                        starts ? plant.startBehind(-age) << ROW_BITS : 0);
            }
            return placeOf(plant.age, off, on, stride);
        }

        private void layMove(int p, int move, int place, int how, int adds) {
            to[p][move] = place;
            mode[p][move] = how;
            toll[p][move] = adds;
        }

        private static int placeOf(int age, int off, int on, int stride) {
            if (age == 0) {
                return -1;
            }
            int state = age < 0 ? Math.min(-age, off) - 1 : off + Math.min(age, on) - 1;
            return state * stride;
        }

        private void layHourCosts(int t) {
            for (int modes = 0; modes < 27; modes++) {
                int set = 0;
                int goOn = 0;
                int digits = modes;
                for (int p = MOST_PLANTS - 1; p >= 0; p--) {
                    int digit = digits % 3;
                    digits /= 3;
                    set |= (digit == 0 ? 0 : 1) << p;
                    goOn |= (digit == 2 ? 1 : 0) << p;
                }
                boolean all = (set & ~there) == 0;
                hourCosts[modes] = all ? dispatch.share(demand[t], reserve[t], set, goOn) : NONE;
            }
        }

        private void spread(int t) {
            int place = 0;
            for (int a = 0; a < states[0]; a++) {
                for (int b = 0; b < states[1]; b++) {
                    for (int c = 0; c < states[2]; c++) {
                        if (now[place] != FREE) {
                            spreadFrom(now[place], t, 2 * a, 2 * b, 2 * c);
                        }
                        place++;
                    }
                }
            }
        }

        private void spreadFrom(int key, int t, int a, int b, int c) {
            for (int i = a; i < a + 2; i++) {
                for (int j = b; j < b + 2; j++) {
                    if (to[0][i] < 0 || to[1][j] < 0) {
                        continue;
                    }
                    for (int k = c; k < c + 2; k++) {
                        int cost = hourCosts[9 * mode[0][i] + 3 * mode[1][j] + mode[2][k]];
                        if (to[2][k] < 0 || cost < 0) {
                            continue;
                        }
                        int bits = (i & 1) << rowShift(0) | (j & 1) << rowShift(1) | k & 1;
                        int so = key + (cost << ROW_BITS) + toll[0][i] + toll[1][j] + toll[2][k] + (bits << t);
                        int place = to[0][i] + to[1][j] + to[2][k];
                        then[place] = Math.min(then[place], so);
                    }
                }
            }
        }
    }

    /** Asks each plant for its own best row at prices, and moves prices by what they answer. */
    private static final class Market {
        private static final int UNLAWFUL = GREATEST_INT;

        private final Scene scene;
        private final int[] prices = new int[MOST_HOURS];
        private final int[] together = new int[MOST_HOURS];
        private final int[] rows = new int[MOST_PLANTS];
        private final int[] nets = new int[MOST_PLANTS];
        private final int[] amounts = new int[MOST_PLANTS];

        private Market(Scene scene) {
            this.scene = scene;
        }

        private void begin() {
            System.arraycopy(scene.price, 0, prices, 0, MOST_HOURS);
        }

        private void ask() {
            Arrays.fill(together, 0);
            for (int p = 0; p < scene.many; p++) {
                Plant plant = scene.plants[p];
                rows[p] = 0;
                nets[p] = UNLAWFUL;
                for (int row = 0; row < 1 << scene.span; row++) {
                    int net = netOf(plant, row);
                    if (net < nets[p]) {
                        nets[p] = net;
                        rows[p] = row;
                    }
                }
                addAmounts(plant, p);
            }
        }

        private int netOf(Plant plant, int row) {
            int net = 0;
            int age = plant.age;
            for (int t = 0; t < scene.span; t++) {
                boolean isOn = (row >> t & 1) == 1;
                int behind = plant.moved(age, isOn);
                if (behind == 0) {
                    return UNLAWFUL;
                }
                if (isOn) {
                    net += plant.keep + amountAt(plant, t, age < 0) * (plant.price - prices[t]);
                    net += age < 0 ? plant.startBehind(-age) : 0;
                }
                age = behind;
            }
            return net;
        }

        private int amountAt(Plant plant, int t, boolean goesOn) {
            return prices[t] > plant.price ? plant.most(goesOn) : plant.least();
        }

        private void addAmounts(Plant plant, int p) {
            amounts[p] = 0;
            boolean wasOn = plant.age > 0;
            for (int t = 0; t < scene.span; t++) {
                boolean isOn = (rows[p] >> t & 1) == 1;
                if (isOn) {
                    int amount = amountAt(plant, t, !wasOn);
                    amounts[p] += amount;
                    together[t] += amount;
                }
                wasOn = isOn;
            }
        }

        private int boundNow() {
            int sum = 0;
            for (int t = 0; t < scene.span; t++) {
                sum += prices[t] * scene.demand[t];
            }
            for (int p = 0; p < scene.many; p++) {
                sum += nets[p];
            }
            return sum;
        }

        /** The greatest bound of n rounds; the prices are left as they are then. */
        private int run(int n) {
            begin();
            ask();
            int greatest = boundNow();
            for (int k = 1; k <= n; k++) {
                for (int t = 0; t < scene.span; t++) {
                    int more = (scene.demand[t] - together[t]) * scene.step / k;
                    prices[t] = Math.max(0, Math.min(99, prices[t] + more));
                }
                ask();
                greatest = Math.max(greatest, boundNow());
            }
            return greatest;
        }
    }

    /** Mends the answers of the plants hour by hour until each hour can be done. */
    private static final class Repair {
        private final Scene scene;
        private final Market market;
        private final Walk walk;
        private final int[] rows = new int[MOST_PLANTS];

        private Repair(Scene scene, Market market, Walk walk) {
            this.scene = scene;
            this.market = market;
            this.walk = walk;
        }

        /** The market must have been asked ahead of it. */
        private int run() {
            Arrays.fill(rows, 0);
            walk.begin();
            int cost = 0;
            for (int t = 0; t < scene.span; t++) {
                int answered = 0;
                for (int p = 0; p < scene.many; p++) {
                    answered |= (market.rows[p] >> t & 1) << p;
                }
                int set = nearest(t, answered);
                if (set < 0) {
                    return NONE;
                }
                cost += walk.pass(t, set);
                for (int p = 0; p < scene.many; p++) {
                    rows[p] |= (set >> p & 1) << t;
                }
            }
            return cost;
        }

        private int nearest(int t, int answered) {
            int nearest = NONE;
            int leastOthers = 0;
            int leastCost = 0;
            for (int set = 0; set < 1 << scene.many; set++) {
                int cost = walk.tried(t, set);
                int others = Integer.bitCount(set ^ answered);
                boolean nearer = others < leastOthers || others == leastOthers && cost < leastCost;
                if (cost >= 0 && (nearest < 0 || nearer)) {
                    nearest = set;
                    leastOthers = others;
                    leastCost = cost;
                }
            }
            return nearest;
        }
    }

    /** A list; below 0 its size says that it is missing. */
    private static final class Line {
        private final int[] values = new int[LIST_ROOM];
        private int size = -1;

        private void make(int n) {
            Arrays.fill(values, 0);
            size = n;
        }

        private boolean set(int i, int v) {
            if (i < 0 || i >= size || i >= LIST_ROOM) {
                return false;
            }
            values[i] = v;
            return true;
        }

        private int setAt(int t, int many) {
            int set = 0;
            for (int p = 0; p < many && p < size; p++) {
                set |= (values[p] >> t & 1) << p;
            }
            return set;
        }

        private boolean tellsStarts(int kind, int figure, int start) {
            for (int i = 0; i < size; i++) {
                if (values[i] != Plant.startOf(kind, figure, start, i + 1)) {
                    return false;
                }
            }
            return true;
        }
    }

    /** A rack; below 0 its size says that it is missing. */
    private static final class Shelf {
        private final Plant[] places = new Plant[RACK_ROOM];
        private final boolean[] full = new boolean[RACK_ROOM];
        private int kind = 0;
        private int size = -1;

        private Shelf() {
            for (int i = 0; i < RACK_ROOM; i++) {
                places[i] = new Plant();
            }
        }

        private void make(int forKind, int n) {
            kind = forKind;
            size = n;
            for (int i = 0; i < RACK_ROOM; i++) {
                full[i] = false;
            }
        }

        private boolean noPlace(int i) {
            return i < 0 || i >= size || i >= RACK_ROOM;
        }

        private void copyFrom(Shelf other) {
            kind = other.kind;
            size = other.size;
            for (int i = 0; i < RACK_ROOM; i++) {
                full[i] = other.full[i];
                places[i].copyFrom(other.places[i]);
            }
        }
    }
}
