import java.math.BigInteger;
import java.util.ArrayList;
import java.util.Arrays;
import java.util.Comparator;
import java.util.List;
import java.util.regex.Matcher;
import java.util.regex.Pattern;

/**
 * The document told a second time, in the slowest and plainest way: all plans are tried, texts are
 * matched by an expression, sums are taken without a bound. Tests hold the class against it.
 */
public final class Model {
    static final long TOLD = 4000000000000000000L;
    static final Pattern TEXT = Pattern.compile("(?:p\\d\\d?,\\d\\d?;|g\\d\\d?=\\d\\d?,\\d\\d?;"
            + "|c\\d\\d?=\\d\\d?,\\d\\d?,\\d\\d?;|t\\d\\d?=\\d\\d?,\\d\\d?;|a\\d\\d?[+-]\\d\\d?;"
            + "|d\\d\\d?=\\d\\d?,\\d\\d?;|h\\d\\d?;)+");

    static final class P implements Cloneable {
        int kind, figure, low, high = 10, price = 1, keep, start, up = 1, down = 1, age = -1;

        P copy() {
            try {
                return (P) clone();
            } catch (CloneNotSupportedException e) {
                throw new IllegalStateException(e);
            }
        }

        boolean cold() {
            return kind == 1 || kind == 4;
        }

        boolean base() {
            return kind == 3 || kind == 5;
        }

        int startBehind(int r) {
            if (base()) {
                return start * 2;
            }
            if (cold()) {
                int c = start + figure * (r > 4 ? 4 : r);
                return kind == 4 && r == 1 ? c / 2 : c;
            }
            return start;
        }

        int least() {
            return kind == 5 ? high : low;
        }

        int most(boolean goesOn) {
            return goesOn && (kind == 2 || kind == 3) ? Math.min(high, low + figure) : high;
        }

        boolean isOn(int row, int t) {
            return t < 0 ? age > 0 : (row >> t & 1) == 1;
        }

        /** How long it has been as it is in hour t - 1, ahead of hour t. */
        int run(int row, int t) {
            int n = 0;
            int u = t - 1;
            while (u >= 0 && isOn(row, u) == isOn(row, t - 1)) {
                n++;
                u--;
            }
            return u < 0 && isOn(row, -1) == isOn(row, t - 1) ? n + Math.abs(age) : n;
        }

        boolean goesOn(int row, int t) {
            return isOn(row, t) && !isOn(row, t - 1);
        }

        boolean lawfulAt(int row, int t) {
            if (isOn(row, t) == isOn(row, t - 1)) {
                return true;
            }
            return isOn(row, t) ? run(row, t) >= down : !base() && run(row, t) >= up;
        }

        boolean lawful(int row, int h) {
            for (int t = 0; t < h; t++) {
                if (!lawfulAt(row, t)) {
                    return false;
                }
            }
            return true;
        }
    }

    static final class S {
        int h = 4;
        int[] demand = new int[5];
        int[] reserve = new int[5];
        int[] price = new int[5];
        List<P> plants = new ArrayList<>();
        int merit;
        int step = 1;
        long purse;

        S copy() {
            S s = new S();
            s.h = h;
            s.demand = demand.clone();
            s.reserve = reserve.clone();
            s.price = price.clone();
            for (P p : plants) {
                s.plants.add(p.copy());
            }
            s.merit = merit;
            s.step = step;
            s.purse = purse;
            return s;
        }

        /** What each gives, or null. */
        int[] dispatch(int t, int set, int goOn) {
            int least = 0;
            int most = 0;
            List<Integer> in = new ArrayList<>();
            for (int p = 0; p < plants.size(); p++) {
                if ((set >> p & 1) == 1) {
                    in.add(p);
                    least += plants.get(p).least();
                    most += plants.get(p).most((goOn >> p & 1) == 1);
                }
            }
            if (least > demand[t] || most < demand[t] + reserve[t]) {
                return null;
            }
            if (merit == 0) {
                in.sort(Comparator.comparingInt(p -> plants.get(p).price));
            } else if (merit == 1) {
                in.sort(Comparator.comparingInt(p -> -plants.get(p).high));
            }
            int[] gives = new int[plants.size()];
            int sum = 0;
            for (int p : in) {
                gives[p] = plants.get(p).least();
                sum += gives[p];
            }
            for (int p : in) {
                while (sum < demand[t] && gives[p] < plants.get(p).most((goOn >> p & 1) == 1)) {
                    gives[p]++;
                    sum++;
                }
            }
            return gives;
        }

        /** Cost of hour t by rows (of plants as they are), -9 if it can't be done so. */
        int hourCost(int[] rows, int t) {
            int set = 0;
            int goOn = 0;
            int cost = 0;
            for (int p = 0; p < plants.size(); p++) {
                P q = plants.get(p);
                if (q.isOn(rows[p], t)) {
                    set |= 1 << p;
                    cost += q.keep;
                }
                if (q.goesOn(rows[p], t)) {
                    goOn |= 1 << p;
                    cost += q.startBehind(q.run(rows[p], t));
                }
            }
            int[] gives = dispatch(t, set, goOn);
            if (gives == null) {
                return -9;
            }
            for (int p = 0; p < plants.size(); p++) {
                cost += gives[p] * plants.get(p).price;
            }
            return cost;
        }

        /** The cost and the rows behind it, or null. */
        int[] best() {
            int[] found = new int[plants.size() + 1];
            found[0] = -9;
            tryRows(new int[plants.size()], 0, found);
            return found[0] < 0 ? null : found;
        }

        void tryRows(int[] rows, int p, int[] found) {
            if (p == plants.size()) {
                int cost = 0;
                for (int t = 0; t < h; t++) {
                    int c = hourCost(rows, t);
                    if (c < 0) {
                        return;
                    }
                    cost += c;
                    if (found[0] >= 0 && cost >= found[0]) {
                        return;
                    }
                }
                found[0] = cost;
                System.arraycopy(rows, 0, found, 1, rows.length);
                return;
            }
            for (int row = 0; row < 1 << h; row++) {
                if (plants.get(p).lawful(row, h)) {
                    rows[p] = row;
                    tryRows(rows, p + 1, found);
                }
            }
        }

        int bestCost() {
            int[] b = best();
            return b == null ? -9 : b[0];
        }

        /** Row, net, given in all, given by hours. */
        int[] answer(P q) {
            int[] found = null;
            for (int row = 0; row < 1 << h; row++) {
                if (!q.lawful(row, h)) {
                    continue;
                }
                int[] a = new int[8];
                a[0] = row;
                for (int t = 0; t < h; t++) {
                    if (q.isOn(row, t)) {
                        int gives = price[t] > q.price ? q.most(q.goesOn(row, t)) : q.least();
                        a[1] += q.keep + gives * (q.price - price[t]);
                        a[1] += q.goesOn(row, t) ? q.startBehind(q.run(row, t)) : 0;
                        a[2] += gives;
                        a[3 + t] = gives;
                    }
                }
                if (found == null || a[1] < found[1]) {
                    found = a;
                }
            }
            return found;
        }

        int bound() {
            int b = 0;
            for (int t = 0; t < h; t++) {
                b += price[t] * demand[t];
            }
            for (P q : plants) {
                b += answer(q)[1];
            }
            return b;
        }

        /** Moves the prices by n rounds; the greatest bound. */
        int go(int n) {
            int greatest = bound();
            for (int k = 1; k <= n; k++) {
                int[] lacks = demand.clone();
                for (P q : plants) {
                    int[] a = answer(q);
                    for (int t = 0; t < h; t++) {
                        lacks[t] -= a[3 + t];
                    }
                }
                for (int t = 0; t < h; t++) {
                    int size = Math.abs(lacks[t]) * step / k;
                    int v = lacks[t] < 0 ? price[t] - size : price[t] + size;
                    price[t] = v < 0 ? 0 : v > 99 ? 99 : v;
                }
                greatest = Math.max(greatest, bound());
            }
            return greatest;
        }

        /** Cost and rows, or null. */
        int[] repaired() {
            int n = plants.size();
            int[] rows = new int[n];
            int total = 0;
            for (int t = 0; t < h; t++) {
                int[] least = null;
                for (int set = 0; set < 1 << n; set++) {
                    int[] so = rows.clone();
                    boolean may = true;
                    int others = 0;
                    for (int p = 0; p < n; p++) {
                        so[p] |= (set >> p & 1) << t;
                        may &= plants.get(p).lawfulAt(so[p], t);
                        others += (answer(plants.get(p))[0] >> t & 1) != (set >> p & 1) ? 1 : 0;
                    }
                    int c = may ? hourCost(so, t) : -9;
                    int[] key = {others, c, set};
                    if (c >= 0 && (least == null || Arrays.compare(key, least) < 0)) {
                        least = key;
                    }
                }
                if (least == null) {
                    return null;
                }
                total += least[1];
                for (int p = 0; p < n; p++) {
                    rows[p] |= (least[2] >> p & 1) << t;
                }
            }
            int[] all = new int[n + 1];
            all[0] = total;
            System.arraycopy(rows, 0, all, 1, n);
            return all;
        }
    }

    S s = new S();
    S image;
    StringBuilder text = new StringBuilder();
    int[] refusals = new int[7];
    int[][] lists = new int[4][];
    P[][] racks = new P[3][];
    int[] rackKinds = new int[3];

    int no(int code) {
        refusals[-code]++;
        return code;
    }

    long noLong(int code) {
        return TOLD - no(code);
    }

    boolean hour0(int t) {
        return t < 0 || t >= s.h;
    }

    boolean plant0(int p) {
        return p < 0 || p >= s.plants.size();
    }

    public int letter(int c) {
        if (c < 0) return no(-4);
        if (c > 255 || text.length() == 120) return no(-6);
        text.append((char) c);
        return text.length();
    }

    public int tells() {
        String all = text.toString();
        text.setLength(0);
        for (int i = 1; i <= all.length(); i++) {
            Matcher m = TEXT.matcher(all.substring(0, i));
            if (!m.matches() && !m.hitEnd()) return -1000 - (i - 1);
        }
        if (!TEXT.matcher(all).matches()) return -1000 - all.length();
        S old = s.copy();
        int[] counted = refusals.clone();
        int n = 0;
        int place = 0;
        for (String one : all.split(";")) {
            String[] f = one.substring(1).split("[=,+-]");
            int[] v = new int[f.length];
            for (int i = 0; i < f.length; i++) v[i] = Integer.parseInt(f[i]);
            int a;
            switch (one.charAt(0)) {
                case 'p': a = plant(v[0], v[1]); break;
                case 'g': a = gives(v[0], v[1], v[2]); break;
                case 'c': a = costs(v[0], v[1], v[2], v[3]); break;
                case 't': a = times(v[0], v[1], v[2]); break;
                case 'a': a = age(v[0], one.contains("-") ? -v[1] : v[1]); break;
                case 'd': a = demand(v[0], v[1], v[2]); break;
                default: a = hours(v[0]); break;
            }
            if (a < 0) {
                s = old;
                refusals = counted;
                return -2000 - place;
            }
            place += one.length() + 1;
            n++;
        }
        return n;
    }

    public int hours(int n) {
        if (n < 1) return no(-4);
        if (n > 5) return no(-6);
        int was = s.h;
        s.h = n;
        return was;
    }

    public int demand(int hour, int demand, int reserve) {
        if (hour0(hour)) return no(-1);
        if (demand < 0 || reserve < 0) return no(-4);
        if (demand > 99 || reserve > 20) return no(-6);
        int was = s.demand[hour] * 100 + s.reserve[hour];
        s.demand[hour] = demand;
        s.reserve[hour] = reserve;
        return was;
    }

    public int plant(int kind, int figure) {
        if (kind < 0 || kind > 5) return no(-2);
        if (figure < 0) return no(-4);
        if (figure > 9 || s.plants.size() == 3) return no(-6);
        P p = new P();
        p.kind = kind;
        p.figure = figure;
        s.plants.add(p);
        return s.plants.size() - 1;
    }

    public int gives(int plant, int low, int high) {
        if (plant0(plant)) return no(-1);
        if (low < 0 || high < 0) return no(-4);
        if (low > 30 || high > 60) return no(-6);
        if (low > high) return no(-3);
        P p = s.plants.get(plant);
        int was = p.low * 100 + p.high;
        p.low = low;
        p.high = high;
        return was;
    }

    public int costs(int plant, int price, int keep, int start) {
        if (plant0(plant)) return no(-1);
        if (price < 0 || keep < 0 || start < 0) return no(-4);
        if (price > 9 || keep > 30 || start > 50) return no(-6);
        P p = s.plants.get(plant);
        int was = p.price * 10000 + p.keep * 100 + p.start;
        p.price = price;
        p.keep = keep;
        p.start = start;
        return was;
    }

    public int times(int plant, int up, int down) {
        if (plant0(plant)) return no(-1);
        if (up < 1 || down < 1) return no(-4);
        if (up > 3 || down > 3) return no(-6);
        P p = s.plants.get(plant);
        int was = p.up * 10 + p.down;
        p.up = up;
        p.down = down;
        return was;
    }

    public int age(int plant, int v) {
        if (plant0(plant)) return no(-1);
        if (v < -4) return no(-4);
        if (v > 4) return no(-6);
        if (v == 0) return no(-3);
        P p = s.plants.get(plant);
        int was = p.age + 10;
        p.age = v;
        return was;
    }

    public int merit(int v) {
        if (v < 0 || v > 2) return no(-2);
        int was = s.merit;
        s.merit = v;
        return was;
    }

    public int of(int plant, int what) {
        if (plant0(plant)) return no(-1);
        if (what < 0 || what > 11) return no(-2);
        P p = s.plants.get(plant);
        return new int[] {p.kind, p.figure, p.low, p.high, p.price, p.keep, p.start, p.up, p.down,
            p.age + 10, p.least(), p.most(true)}[what];
    }

    public int starts(int plant, int r) {
        if (plant0(plant)) return no(-1);
        if (r < 1) return no(-4);
        if (r > 9) return no(-6);
        return s.plants.get(plant).startBehind(r);
    }

    public int lawful(int plant, int row) {
        if (plant0(plant)) return no(-1);
        if (row < 0) return no(-4);
        if (row >>> s.h != 0) return no(-6);
        return s.plants.get(plant).lawful(row, s.h) ? 1 : 0;
    }

    public int rows(int plant, int i) {
        if (plant0(plant)) return no(-1);
        List<Integer> all = new ArrayList<>();
        for (int row = 0; row < 1 << s.h; row++) {
            if (s.plants.get(plant).lawful(row, s.h)) all.add(row);
        }
        if (i == -1) return all.size();
        return i < -1 || i >= all.size() ? no(-3) : all.get(i);
    }

    public int done(int hour, int set) {
        if (hour0(hour)) return no(-1);
        if (set < 0) return no(-4);
        if (set >>> s.plants.size() != 0) return no(-6);
        int[] gives = s.dispatch(hour, set, 0);
        if (gives == null) return -9;
        int cost = 0;
        for (int p = 0; p < gives.length; p++) {
            P q = s.plants.get(p);
            cost += gives[p] * q.price + ((set >> p & 1) == 1 ? q.keep : 0);
        }
        return cost;
    }

    public int given(int hour, int set, int plant) {
        if (hour0(hour) || plant0(plant)) return no(-1);
        if (set < 0) return no(-4);
        if (set >>> s.plants.size() != 0) return no(-6);
        if ((set >> plant & 1) == 0) return 0;
        int[] gives = s.dispatch(hour, set, 0);
        return gives == null ? -9 : gives[plant];
    }

    public int best() {
        return s.bestCost();
    }

    public int row(int plant) {
        if (plant0(plant)) return no(-1);
        int[] b = s.best();
        return b == null ? -9 : b[1 + plant];
    }

    public int cost(int hour) {
        if (hour0(hour)) return no(-1);
        int[] b = s.best();
        return b == null ? -9 : s.hourCost(Arrays.copyOfRange(b, 1, b.length), hour);
    }

    int more(S so) {
        int a = s.bestCost();
        int b = so.bestCost();
        return a < 0 || b < 0 ? -99999 : b - a;
    }

    public int margin(int hour) {
        if (hour0(hour)) return no(-1);
        S so = s.copy();
        so.demand[hour]++;
        return more(so);
    }

    public int worth(int plant) {
        if (plant0(plant)) return no(-1);
        S so = s.copy();
        so.plants.remove(plant);
        return more(so);
    }

    public int hand() {
        int most = -9;
        for (int v = 0; v <= 60; v++) {
            S so = s.copy();
            for (int t = 0; t < 5; t++) so.reserve[t] += v;
            if (so.best() != null) most = v;
            else if (v == 0) return -9;
        }
        return most;
    }

    public long likely(int t, int part) {
        if (t < 2) return noLong(-4);
        if (t > 20) return noLong(-6);
        if (part < 0 || part > 1) return noLong(-2);
        int n = s.plants.size();
        BigInteger above = BigInteger.ZERO;
        for (int there = 0; there < 1 << n; there++) {
            S so = s.copy();
            for (int p = n - 1; p >= 0; p--) {
                if ((there >> p & 1) == 0) so.plants.remove(p);
            }
            if (so.best() != null) {
                above = above.add(BigInteger.valueOf(t - 1).pow(so.plants.size()));
            }
        }
        BigInteger below = BigInteger.valueOf(t).pow(n);
        BigInteger g = above.gcd(below);
        return (part == 0 ? above : below).divide(g).longValueExact();
    }

    public long shown(int what) {
        if (what < 0 || what > 2) return noLong(-2);
        int[] b = s.best();
        int asked = 0;
        for (int t = 0; t < s.h; t++) asked += s.demand[t];
        if (b == null || what == 0 && asked == 0) return noLong(-3);
        if (what == 0) return Float.floatToIntBits((float) b[0] / (float) asked);
        float f = 0;
        for (int t = 0; t < s.h; t++) {
            f = (f + (float) s.hourCost(Arrays.copyOfRange(b, 1, b.length), t)) * 0.5f;
        }
        return what == 1 ? Float.floatToIntBits(f) : (int) f;
    }

    public int price(int hour, int v) {
        if (hour0(hour)) return no(-1);
        if (v < 0) return no(-4);
        if (v > 99) return no(-6);
        int was = s.price[hour];
        s.price[hour] = v;
        return was;
    }

    public int step(int v) {
        if (v < 0) return no(-4);
        if (v > 9) return no(-6);
        int was = s.step;
        s.step = v;
        return was;
    }

    public long answer(int plant, int what) {
        if (plant0(plant)) return noLong(-1);
        if (what < 0 || what > 2) return noLong(-2);
        return s.answer(s.plants.get(plant))[what];
    }

    public int bound() {
        return s.bound();
    }

    public long rounds(int n, int hour) {
        if (n < 0) return noLong(-4);
        if (n > 20) return noLong(-6);
        if (hour < -1 || hour >= s.h) return noLong(-1);
        S so = s.copy();
        int greatest = so.go(n);
        return hour == -1 ? greatest : so.price[hour];
    }

    public int goes(int n) {
        if (n < 0) return no(-4);
        if (n > 20) return no(-6);
        int[] old = s.price.clone();
        s.go(n);
        int others = 0;
        for (int t = 0; t < 5; t++) others += old[t] != s.price[t] ? 1 : 0;
        return others;
    }

    public int repaired(int plant) {
        if (plant < -1 || plant >= s.plants.size()) return no(-1);
        int[] r = s.repaired();
        return r == null ? -9 : r[plant + 1];
    }

    public int judge(int list) {
        if (list < 0 || list > 3) return no(-1);
        if (lists[list] == null) return -11;
        int n = s.plants.size();
        if (lists[list].length < n) return 100 + lists[list].length;
        for (int t = 0; t < s.h; t++) {
            for (int p = 0; p < n; p++) {
                if (!s.plants.get(p).lawfulAt(lists[list][p], t)) return t;
            }
            if (s.hourCost(lists[list], t) < 0) return t;
        }
        return -9;
    }

    public int whatIs(int list, int plant, int what) {
        if (list < 0 || list > 3 || plant0(plant)) return no(-1);
        if (what < 0 || what > 1) return no(-2);
        if (lists[list] == null) return -11;
        int bits = 0;
        for (int v = 0; v < (what == 0 ? 6 : 10); v++) {
            P p = s.plants.get(plant).copy();
            if (what == 0) p.kind = v;
            else p.figure = v;
            boolean all = true;
            for (int i = 0; i < lists[list].length; i++) all &= lists[list][i] == p.startBehind(i + 1);
            bits |= all ? 1 << v : 0;
        }
        return bits;
    }

    public int lots(int n, int z, int what) {
        if (n < 1) return no(-4);
        if (n > 20) return no(-6);
        if (what < 0 || what > 1) return no(-2);
        int found = 0;
        int sum = 0;
        for (int i = 0; i < n; i++) {
            S so = s.copy();
            for (int t = 0; t < so.h; t++) {
                z = (int) ((long) z * 1664525L + 1013904223L);
                so.demand[t] = (int) (((long) z & 0x7fffffffL) / 256 % 100);
            }
            int c = so.bestCost();
            found += c >= 0 ? 1 : 0;
            sum += c >= 0 ? c : 0;
        }
        return what == 0 ? found : sum;
    }

    public int list(int list, int n) {
        if (list < 0 || list > 3) return no(-1);
        if (n > 20) return no(-6);
        if (n < 0) return -14;
        lists[list] = new int[n];
        return 1;
    }

    public int put(int list, int i, int v) {
        if (list < 0 || list > 3) return no(-1);
        if (lists[list] == null) return -11;
        if (i < 0 || i >= lists[list].length) return -13;
        lists[list][i] = v;
        return 1;
    }

    public int lays(int list, int i) {
        if (list < 0 || list > 3) return no(-1);
        int[] b = s.best();
        if (b == null) return no(-3);
        if (lists[list] == null) return -11;
        for (int p = 0; p < s.plants.size(); p++) {
            long place = (long) i + p;
            if (place < 0 || place >= lists[list].length) return -13;
            lists[list][(int) place] = b[p + 1];
        }
        return s.plants.size();
    }

    int purseBecomes(BigInteger v) {
        if (v.bitLength() > 63) return -7;
        s.purse = v.longValueExact();
        return 1;
    }

    public int pays(long n, long v) {
        BigInteger more = BigInteger.valueOf(n).multiply(BigInteger.valueOf(v));
        if (more.bitLength() > 63) return -7;
        return purseBecomes(more.add(BigInteger.valueOf(s.purse)));
    }

    public long purse() {
        return s.purse;
    }

    public int bills(int n) {
        int c = s.bestCost();
        if (c < 0) return no(-3);
        return purseBecomes(BigInteger.valueOf(s.purse).subtract(BigInteger.valueOf((long) c * n)));
    }

    public int rack(int rack, int kind, int n) {
        if (rack < 0 || rack > 2) return no(-1);
        if (kind < 0 || kind > 5) return no(-2);
        if (n > 9) return no(-6);
        if (n < 0) return -14;
        racks[rack] = new P[n];
        rackKinds[rack] = kind;
        return 1;
    }

    static final boolean[][] FITS = {
        // by the rack's kind, then by the plant's
        {true, true, true, true, true, true},
        {false, true, false, false, true, false},
        {false, false, true, true, false, true},
        {false, false, false, true, false, true},
        {false, false, false, false, true, false},
        {false, false, false, false, false, true},
    };

    public int racks(int rack, int i, int plant) {
        if (rack < 0 || rack > 2 || plant < -1 || plant >= s.plants.size()) return no(-1);
        if (racks[rack] == null) return -11;
        if (i < 0 || i >= racks[rack].length) return -13;
        if (plant >= 0 && !FITS[rackKinds[rack]][s.plants.get(plant).kind]) return -16;
        racks[rack][i] = plant < 0 ? null : s.plants.get(plant).copy();
        return 1;
    }

    public int racked(int rack, int i, int r) {
        if (rack < 0 || rack > 2) return no(-1);
        if (r < 1) return no(-4);
        if (r > 9) return no(-6);
        if (racks[rack] == null) return -11;
        if (i < 0 || i >= racks[rack].length) return -13;
        return racks[rack][i] == null ? -9 : racks[rack][i].startBehind(r);
    }

    public int like(int rack, int other) {
        if (rack < 0 || rack > 2 || other < 0 || other > 2) return no(-1);
        if (racks[other] == null) return -11;
        racks[rack] = racks[other].clone();
        rackKinds[rack] = rackKinds[other];
        return racks[rack].length;
    }

    public int image() {
        image = s.copy();
        return s.plants.size();
    }

    public int on() {
        if (image == null) return no(-3);
        s = image.copy();
        return s.plants.size();
    }

    public int count(int what) {
        if (what >= 11 && what <= 16) return refusals[what - 10];
        int asked = 0;
        for (int t = 0; t < s.h; t++) asked += s.demand[t];
        int[] all = {s.plants.size(), s.h, s.merit, s.step, text.length(), asked};
        return what >= 0 && what <= 5 ? all[what] : -9;
    }

    public int hour(int hour, int what) {
        if (hour0(hour)) return no(-1);
        if (what < 0 || what > 2) return no(-2);
        return what == 0 ? s.demand[hour] : what == 1 ? s.reserve[hour] : s.price[hour];
    }
}
