import java.util.ArrayList;
import java.util.List;
import java.util.Random;

/** The document's parts I to IV once more, by trying everything: slow, and made apart from the class. */
final class Model {
    static final int NEVER = -9;

    int yards = 10;
    int lane = 0;
    final int[][] kind = new int[2][20];
    final int[][] figure = new int[2][20];
    final List<int[]> people = new ArrayList<>();

    Model copy() {
        Model m = new Model();
        m.yards = yards;
        m.lane = lane;
        for (int l = 0; l < 2; l++) {
            System.arraycopy(kind[l], 0, m.kind[l], 0, 20);
            System.arraycopy(figure[l], 0, m.figure[l], 0, 20);
        }
        for (int[] p : people) {
            m.people.add(p.clone());
        }
        return m;
    }

    static Model random(Random r, int mostYards, int howMany) {
        Model m = new Model();
        m.yards = 1 + r.nextInt(mostYards);
        m.lane = r.nextInt(2);
        for (int l = 0; l < 2; l++) {
            for (int y = 0; y < 20; y++) {
                m.kind[l][y] = r.nextInt(3) == 0 ? 0 : r.nextInt(6);
                m.figure[l][y] = r.nextInt(10);
            }
        }
        for (int i = 0; i < howMany; i++) {
            boolean strong = r.nextInt(3) != 0;
            int arms = strong ? 20 + r.nextInt(41) : 1 + r.nextInt(60);
            m.people.add(new int[] {arms, 1 + r.nextInt(strong ? 5 : 9), 1 + r.nextInt(9)});
        }
        return m;
    }

    /** An object that is as this model, made by fewer than 60 calls; nothing can be TAKEN BACK in it. */
    HandsForAWheel object() {
        HandsForAWheel x = new HandsForAWheel();
        x.yards(20);
        for (int l = 0; l < 2; l++) {
            for (int y = 0; y < 20; y++) {
                x.yard(l, y, kind[l][y], figure[l][y]);
            }
        }
        for (int[] p : people) {
            x.comes(p[0], p[1], p[2]);
        }
        x.lane(lane);
        x.yards(yards);
        return x;
    }

    // ---- I

    static int load(int kind, int figure, int heavy, int hold) {
        if (kind == 1) {
            return Math.max(1, load(0, 0, heavy, hold) - figure / 2);
        }
        if (kind == 2) {
            return load(0, 0, heavy, hold) + figure;
        }
        if (kind == 3) {
            return load(0, 0, heavy, hold) + 2;
        }
        if (kind == 4) {
            return load(3, figure, heavy, hold) + 1;
        }
        if (kind == 5) {
            return load(2, figure, heavy, hold) * 2;
        }
        return (heavy * (4 - hold)) / 2;
    }

    static int tenths(int kind, int figure, int hold, int pace) {
        if (kind == 1) {
            return Math.max(1, tenths(0, 0, hold, pace) - 2);
        }
        if (kind == 2) {
            return tenths(0, 0, hold, pace) + figure;
        }
        if (kind == 3) {
            return tenths(0, 0, hold, pace) + 3;
        }
        if (kind == 4) {
            return tenths(3, figure, hold, pace) + figure;
        }
        if (kind == 5) {
            return tenths(2, figure, hold, pace) + 5;
        }
        return 30 - 3 * pace + 2 * hold;
    }

    static int limit(int kind, int hands) {
        int limit = hands;
        if (kind == 1) {
            limit = hands + 2;
        } else if (kind == 2 || kind == 3) {
            limit = hands - 1;
        } else if (kind == 4) {
            limit = limit(3, hands);
        } else if (kind == 5) {
            limit = limit(2, hands) - 1;
        }
        return Math.max(1, limit);
    }

    /** One yard of a way: in which lane, at which pace, with how many rests (-1: those that must be), a change ahead. */
    static final class Step {
        int lane;
        int yard;
        int pace;
        int rests = -1;
        int walks = -1;
        int extra = 0;
    }

    /** What became of a race. */
    static final class Ended {
        boolean never = false;
        int tenths = 0;
        int noses = 0;
        int rests = 0;
        int left = 0;
        int yardsDone = 0;
        int yardsWithoutRest = -1;
        final List<Integer> behind = new ArrayList<>();

        int time() {
            return never ? NEVER : tenths;
        }
    }

    Ended go(int walks, int hold, List<Step> way) {
        Ended e = new Ended();
        int[] p = people.get(walks);
        e.left = p[0];
        for (Step s : way) {
            if (s.walks >= 0) {
                p = people.get(s.walks);
                e.left = p[0];
                e.tenths += 40;
            }
            int k = kind[s.lane][s.yard];
            int f = figure[s.lane][s.yard];
            int tires = load(k, f, p[1], hold) + s.pace;
            if (e.left < tires && e.yardsWithoutRest < 0) {
                e.yardsWithoutRest = e.yardsDone;
            }
            for (int r = 0; r < s.rests; r++) {
                e.rests++;
                e.tenths += 15;
                e.left = Math.min(p[0], e.left + 10);
            }
            if (p[0] < tires || s.rests >= 0 && e.left < tires) {
                e.never = true;
                break;
            }
            while (e.left < tires) {
                e.rests++;
                e.tenths += 15;
                e.left = Math.min(p[0], e.left + 10);
            }
            e.left -= tires;
            e.tenths += tenths(k, f, hold, s.pace) + s.extra;
            if (s.pace > limit(k, p[2])) {
                e.noses++;
                e.tenths += 40;
                e.left = Math.min(p[0], e.left + 5);
            }
            e.yardsDone++;
            e.behind.add(e.tenths);
        }
        if (e.yardsWithoutRest < 0) {
            e.yardsWithoutRest = e.yardsDone;
        }
        return e;
    }

    List<Step> plainWay(int lane, int pace) {
        List<Step> way = new ArrayList<>();
        for (int y = 0; y < yards; y++) {
            Step s = new Step();
            s.lane = lane;
            s.yard = y;
            s.pace = pace;
            way.add(s);
        }
        return way;
    }

    Ended race(int walks, int hold, int pace) {
        return go(walks, hold, plainWay(lane, pace));
    }

    static boolean sooner(int one, int other) {
        return one != NEVER && (other == NEVER || one < other);
    }

    // ---- II

    int over(int holds, int walks, int hold, int pace, int... changes) {
        List<Step> way = plainWay(lane, pace);
        int now = walks;
        for (int c : changes) {
            now = now == walks ? holds : walks;
            way.get(c).walks = now;
        }
        return go(walks, hold, way).time();
    }

    int bestPace(int walks, int hold) {
        int best = NEVER;
        for (int pace = 9; pace >= 1; pace--) {
            int time = race(walks, hold, pace).time();
            if (time != NEVER && (best == NEVER || time <= race(walks, hold, best).time())) {
                best = pace;
            }
        }
        return best;
    }

    int bestHold(int walks, int pace) {
        int best = NEVER;
        for (int hold = 2; hold >= 0; hold--) {
            int time = race(walks, hold, pace).time();
            if (time != NEVER && (best == NEVER || time <= race(walks, best, pace).time())) {
                best = hold;
            }
        }
        return best;
    }

    int bestChange(int holds, int walks, int hold, int pace) {
        int best = NEVER;
        int fewest = race(walks, hold, pace).time();
        for (int c = 1; c < yards; c++) {
            int time = over(holds, walks, hold, pace, c);
            if (sooner(time, fewest)) {
                fewest = time;
                best = c;
            }
        }
        return best;
    }

    int relay(int holds, int walks, int hold, int pace) {
        int best = NEVER;
        int fewest = race(walks, hold, pace).time();
        for (int e = 2; e < yards; e++) {
            for (int c = 1; c < e; c++) {
                int time = over(holds, walks, hold, pace, c, e);
                if (sooner(time, fewest) || time == fewest && best != NEVER && 100 * c + e < best) {
                    fewest = time;
                    best = 100 * c + e;
                }
            }
        }
        return best;
    }

    private int soonestTime = NEVER;
    private int[] soonestWay = null;

    /** Tries all ways, in the order of the document: TENTHS, then RESTS and PACE of each yard; null NEVER. */
    int[] soonest(int walks, int hold) {
        soonestTime = NEVER;
        soonestWay = null;
        tryAll(walks, hold, plainWay(lane, 1), 0);
        if (soonestWay == null) {
            return null;
        }
        int[] answer = new int[1 + 2 * yards];
        answer[0] = soonestTime;
        System.arraycopy(soonestWay, 0, answer, 1, 2 * yards);
        return answer;
    }

    private void tryAll(int walks, int hold, List<Step> way, int yard) {
        if (yard == way.size()) {
            int time = go(walks, hold, way).time();
            if (sooner(time, soonestTime)) {
                soonestTime = time;
                soonestWay = new int[2 * yards];
                for (int y = 0; y < yards; y++) {
                    soonestWay[2 * y] = way.get(y).rests;
                    soonestWay[2 * y + 1] = way.get(y).pace;
                }
            }
            return;
        }
        for (int rests = 0; rests <= 6; rests++) {
            for (int pace = 1; pace <= 9; pace++) {
                way.get(yard).rests = rests;
                way.get(yard).pace = pace;
                if (!go(walks, hold, way.subList(0, yard + 1)).never) {
                    tryAll(walks, hold, way, yard + 1);
                }
            }
        }
    }

    /** As soonest(), for many yards: what is the best from a yard on with so much LEFT is tried once only. */
    int[] soonestFar(int walks, int hold) {
        Integer[][] known = new Integer[yards][61];
        int[] p = people.get(walks);
        int best = from(0, p[0], p, hold, known);
        if (best == NEVER) {
            return null;
        }
        int[] answer = new int[1 + 2 * yards];
        answer[0] = best;
        int left = p[0];
        for (int y = 0; y < yards; y++) {
            int want = from(y, left, p, hold, known);
            boolean found = false;
            for (int rests = 0; rests <= 6 && !found; rests++) {
                for (int pace = 1; pace <= 9 && !found; pace++) {
                    int[] after = after(y, left, rests, pace, p, hold);
                    int rest = after == null ? NEVER : from(y + 1, after[1], p, hold, known);
                    if (rest != NEVER && after[0] + rest == want) {
                        answer[1 + 2 * y] = rests;
                        answer[2 + 2 * y] = pace;
                        left = after[1];
                        found = true;
                    }
                }
            }
        }
        return answer;
    }

    private int from(int yard, int left, int[] p, int hold, Integer[][] known) {
        if (yard == yards) {
            return 0;
        }
        if (known[yard][left] == null) {
            int best = NEVER;
            for (int rests = 0; rests <= 6; rests++) {
                for (int pace = 1; pace <= 9; pace++) {
                    int[] after = after(yard, left, rests, pace, p, hold);
                    int rest = after == null ? NEVER : from(yard + 1, after[1], p, hold, known);
                    if (rest != NEVER && sooner(after[0] + rest, best)) {
                        best = after[0] + rest;
                    }
                }
            }
            known[yard][left] = best;
        }
        return known[yard][left];
    }

    /** TENTHS and LEFT behind one yard; null if what is LEFT is too little. */
    private int[] after(int yard, int left, int rests, int pace, int[] p, int hold) {
        int k = kind[lane][yard];
        int f = figure[lane][yard];
        int rested = Math.min(p[0], left + 10 * rests) - load(k, f, p[1], hold) - pace;
        if (rested < 0) {
            return null;
        }
        boolean nose = pace > limit(k, p[2]);
        int time = 15 * rests + tenths(k, f, hold, pace) + (nose ? 40 : 0);
        return new int[] {time, nose ? Math.min(p[0], rested + 5) : rested};
    }

    /** TENTHS, then the lanes; null NEVER. All ways, staying first. */
    int[] lanes(int walks, int hold, int pace) {
        int[] best = null;
        for (int turns = 0; turns < 1 << yards; turns++) {
            List<Step> way = plainWay(lane, pace);
            int[] answer = new int[1 + yards];
            int in = lane;
            for (int y = 0; y < yards; y++) {
                if ((turns >> (yards - 1 - y) & 1) == 1) {
                    in = 1 - in;
                    way.get(y).extra = 6;
                }
                way.get(y).lane = in;
                answer[1 + y] = in;
            }
            answer[0] = go(walks, hold, way).time();
            if (sooner(answer[0], best == null ? NEVER : best[0])) {
                best = answer;
            }
        }
        return best;
    }

    int heavy(int one, int other, int hold, int pace) {
        int holds = people.get(one)[1] >= people.get(other)[1] ? one : other;
        int walks = holds == one ? other : one;
        int so = race(walks, hold, pace).time();
        int else_ = race(holds, hold, pace).time();
        return so == NEVER || else_ == NEVER ? -999999 : else_ - so;
    }

    private int allTime = NEVER;
    private String allDigits = "";

    /** ALL, the pairing, FIRST. */
    int[] pairs(int hold, int pace) {
        allTime = NEVER;
        allDigits = "-9";
        List<Integer> free = new ArrayList<>();
        for (int i = 0; i < people.size(); i++) {
            free.add(i);
        }
        pairUp(free, 0, "", hold, pace);
        int first = NEVER;
        int fewest = NEVER;
        for (int a = 0; a < people.size(); a++) {
            for (int b = a + 1; b < people.size(); b++) {
                int time = race(b, hold, pace).time();
                if (sooner(time, fewest)) {
                    fewest = time;
                    first = 10 * a + b;
                }
            }
        }
        return new int[] {allTime, Integer.parseInt(allDigits), first};
    }

    private void pairUp(List<Integer> free, int tenths, String digits, int hold, int pace) {
        if (free.isEmpty()) {
            if (sooner(tenths, allTime)) {
                allTime = tenths;
                allDigits = digits;
            }
            return;
        }
        for (int i = 1; i < free.size(); i++) {
            int time = race(free.get(i), hold, pace).time();
            if (time != NEVER) {
                List<Integer> rest = new ArrayList<>(free);
                rest.remove(i);
                rest.remove(0);
                pairUp(rest, tenths + time, digits + free.get(i), hold, pace);
            }
        }
    }

    int timeIn(int in, int walks, int hold, int pace) {
        return go(walks, hold, plainWay(in, pace)).time();
    }

    int game(int b, int d, int hold, int pace) {
        for (int l = 0; l < 2; l++) {
            if (timeIn(l, b, hold, pace) == NEVER || timeIn(l, d, hold, pace) == NEVER) {
                return NEVER;
            }
        }
        for (int choice = 0; choice < 4; choice++) {
            int one = choice / 2;
            int other = choice % 2;
            int together = one == other ? 25 : 0;
            int mine = timeIn(one, b, hold, pace) + together;
            int mineElse = timeIn(1 - one, b, hold, pace) + 25 - together;
            int yours = timeIn(other, d, hold, pace) + together;
            int yoursElse = timeIn(1 - other, d, hold, pace) + 25 - together;
            if (!(mineElse < mine) && !(yoursElse < yours)) {
                return 10 * one + other;
            }
        }
        return NEVER;
    }

    /** At most, at the end. */
    int[] steers(int g) {
        List<Integer> ends = new ArrayList<>();
        int off = 0;
        int turn = 1;
        int most = 0;
        for (int y = 0; y < yards; y++) {
            off = off + turn;
            ends.add(off);
            most = Math.max(most, Math.abs(off));
            int ago = y - g < 0 ? 0 : ends.get(y - g);
            turn -= Integer.signum(ago);
        }
        return new int[] {most, off};
    }

    int cup(int f, int pace) {
        int there = f;
        for (int y = 0; y < yards; y++) {
            int spilt = pace * there / 60 * (kind[lane][y] == 5 ? 2 : 1);
            there = Math.max(0, there - spilt);
        }
        return there;
    }

    int laughs(int k) {
        int all = 0;
        for (int y = 0; y < yards; y++) {
            all += y % k + 1;
            all += y >= k && y % k == 0 ? 12 : 0;
        }
        return all;
    }

    /** The yards with noses, as a text, for pace and hands. */
    List<Integer> noses(int hands, int pace) {
        List<Integer> row = new ArrayList<>();
        for (int y = 0; y < yards; y++) {
            if (pace > limit(kind[lane][y], hands)) {
                row.add(y);
            }
        }
        return row;
    }

    int[] lots(int walks, int hold, int pace, int n, int z) {
        int all = 0;
        int nevers = 0;
        Model m = copy();
        for (int i = 0; i < n; i++) {
            for (int y = 0; y < yards; y++) {
                z = (int) (z * 1103515245L + 12345L);
                m.figure[lane][y] = (int) ((z & 0x7fffffffL) / 65536L % 10L);
            }
            int time = m.race(walks, hold, pace).time();
            all += time == NEVER ? 999 : time;
            nevers += time == NEVER ? 1 : 0;
        }
        return new int[] {all, nevers};
    }

    // ---- III

    int team(int turn, int hold, int pace) {
        List<Step> way = plainWay(lane, pace);
        int walks = 0;
        for (int y = turn; y < yards; y += turn) {
            walks = walks == 2 ? 0 : walks + 1;
            way.get(y).walks = walks;
        }
        return go(0, hold, way).time();
    }

    int catches(int b, int d, int pace, int t) {
        List<Integer> first = race(b, 0, pace).behind;
        List<Integer> other = race(d, 0, pace).behind;
        for (int y = 0; y < first.size(); y++) {
            if (y >= other.size() || first.get(y) + t <= other.get(y)) {
                return y;
            }
        }
        return NEVER;
    }

    int worst(int walks, int hold, int pace) {
        int best = NEVER;
        int fewest = race(walks, hold, pace).time();
        for (int y = 0; y < yards; y++) {
            Model m = copy();
            m.kind[lane][y] = 0;
            int time = m.race(walks, hold, pace).time();
            if (sooner(time, fewest)) {
                fewest = time;
                best = y;
            }
        }
        return best;
    }

    int handicap(int walks, int hold, int pace, int t) {
        for (int arms = 1; arms <= 60; arms++) {
            int time = with(walks, 0, arms).race(walks, hold, pace).time();
            if (time != NEVER && time <= t) {
                return arms;
            }
        }
        return NEVER;
    }

    Model with(int walks, int what, int v) {
        Model m = copy();
        m.people.get(walks)[what] = v;
        return m;
    }

    List<Integer> ladder(int hold, int pace) {
        List<int[]> twos = new ArrayList<>();
        for (int h = 0; h < people.size(); h++) {
            for (int w = 0; w < people.size(); w++) {
                int time = race(w, hold, pace).time();
                if (h != w && time != NEVER) {
                    twos.add(new int[] {time, 10 * h + w});
                }
            }
        }
        twos.sort((x, y) -> x[0] != y[0] ? Integer.compare(x[0], y[0]) : Integer.compare(x[1], y[1]));
        List<Integer> answer = new ArrayList<>();
        for (int[] two : twos) {
            answer.add(two[1]);
        }
        return answer;
    }

    // ---- IV

    int careful(int walks, int hold) {
        List<Step> way = plainWay(lane, 1);
        for (Step s : way) {
            s.pace = Math.min(9, limit(kind[lane][s.yard], people.get(walks)[2]));
        }
        return go(walks, hold, way).time();
    }

    int practice(int walks, int hold, int pace) {
        int[] p = people.get(walks);
        int[] after = {Math.min(60, p[0] + 5), Math.max(1, p[1] - 1), Math.min(9, p[2] + 1)};
        int best = NEVER;
        int fewest = race(walks, hold, pace).time();
        for (int what = 0; what < 3; what++) {
            int time = with(walks, what, after[what]).race(walks, hold, pace).time();
            if (sooner(time, fewest)) {
                fewest = time;
                best = what;
            }
        }
        return best;
    }

    int half(int walks, int hold, int pace) {
        Ended e = race(walks, hold, pace);
        if (e.never) {
            return NEVER;
        }
        int y = 0;
        while (e.behind.get(y) * 2 < e.tenths) {
            y++;
        }
        return y;
    }

    int turnedRound(int walks, int hold, int pace) {
        List<Step> way = plainWay(lane, pace);
        java.util.Collections.reverse(way);
        return go(walks, hold, way).time();
    }

    int bestLane(int walks, int hold, int pace) {
        int in0 = timeIn(0, walks, hold, pace);
        int in1 = timeIn(1, walks, hold, pace);
        return in0 == NEVER && in1 == NEVER ? NEVER : sooner(in1, in0) ? 1 : 0;
    }

    int rain(int walks, int hold, int pace) {
        Model m = copy();
        for (int y = 0; y < yards; y++) {
            m.kind[lane][y] = kind[lane][y] == 0 ? 3 : kind[lane][y];
        }
        int dry = race(walks, hold, pace).time();
        int wet = m.race(walks, hold, pace).time();
        return dry == NEVER || wet == NEVER ? -999999 : wet - dry;
    }

    int longest(int walks, int hold, int pace, int t) {
        int done = 0;
        for (int tenths : race(walks, hold, pace).behind) {
            done += tenths <= t ? 1 : 0;
        }
        return done;
    }

    int fair(int hold, int pace) {
        int best = NEVER;
        int nearest = Integer.MAX_VALUE;
        for (int a = 0; a < people.size(); a++) {
            for (int b = a + 1; b < people.size(); b++) {
                int one = race(a, hold, pace).time();
                int other = race(b, hold, pace).time();
                if (one != NEVER && other != NEVER && Math.abs(one - other) < nearest) {
                    nearest = Math.abs(one - other);
                    best = 10 * a + b;
                }
            }
        }
        return best;
    }
}
