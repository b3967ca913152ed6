import java.util.List;
import java.util.Random;

/** Random fields and people: promises 12 to 48 and 52 against the model. */
public final class RandomFieldsTest {
    private static final Due DUE = new Due("RandomFieldsTest");

    public static void main(String[] args) {
        for (int seed = 0; seed < 150; seed++) {
            Random r = new Random(seed);
            Model m = Model.random(r, 20, 4 + r.nextInt(3));
            looks(seed, r, m);
        }
        for (int seed = 0; seed < 40; seed++) {
            Random r = new Random(1000 + seed);
            findsSoonest(seed, r, Model.random(r, 3, 1), true);
            findsSoonest(seed, r, Model.random(r, 20, 1), false);
            findsSoonest(seed, r, Model.random(r, 20, 1), false);
            findsLanes(seed, r, Model.random(r, 9, 1));
        }
        DUE.end();
    }

    private static void looks(int seed, Random r, Model m) {
        HandsForAWheel x = m.object();
        for (int i = 0; i < 4; i++) {
            int hold = r.nextInt(3);
            int pace = r.nextBoolean() ? 1 + r.nextInt(9) : 1 + r.nextInt(3);
            int walks = r.nextInt(m.people.size());
            int holds = (walks + 1 + r.nextInt(m.people.size() - 1)) % m.people.size();
            String at = "seed " + seed + "." + i + " ";
            twoOf(at, m, x, r, holds, walks, hold, pace);
            oneOf(at, m, x, r, walks, hold, pace);
            manyOf(at, m, x, r, hold, pace);
        }
        for (int g = 0; g <= 5; g++) {
            DUE.is("seed " + seed + " steers " + g, x.steers(g, 0), m.steers(g)[0]);
            DUE.is("seed " + seed + " steers " + g, x.steers(g, 1), m.steers(g)[1]);
        }
        int e = r.nextInt(12);
        int straight = -9;
        for (int g = 0; g <= 5; g++) {
            straight = m.steers(g)[0] <= e ? g : straight;
        }
        DUE.is("seed " + seed + " straight " + e, x.straight(e), straight);
        laughing("seed " + seed + " ", m, x, 1 + r.nextInt(20));
    }

    private static void laughing(String at, Model m, HandsForAWheel x, int k) {
        DUE.is(at + "laughs " + k, x.laughs(k), m.laughs(k));
        int best = 20;
        for (int i = 20; i >= 1; i--) {
            best = m.laughs(i) <= m.laughs(best) ? i : best;
        }
        DUE.is(at + "bestStop", x.bestStop(), best);
    }

    private static void twoOf(String at, Model m, HandsForAWheel x, Random r, int holds, int walks, int hold, int pace) {
        Model.Ended e = m.race(walks, hold, pace);
        DUE.is(at + "race 0", x.race(holds, walks, hold, pace, 0), e.time());
        DUE.is(at + "race 1", x.race(holds, walks, hold, pace, 1), e.never ? -9 : e.noses);
        DUE.is(at + "race 2", x.race(holds, walks, hold, pace, 2), e.never ? -9 : e.rests);
        DUE.is(at + "race 3", x.race(holds, walks, hold, pace, 3), e.never ? -9 : e.left);
        if (m.yards > 1) {
            int c = 1 + r.nextInt(m.yards - 1);
            DUE.is(at + "raceOver", x.raceOver(holds, walks, hold, pace, c), m.over(holds, walks, hold, pace, c));
        }
        DUE.is(at + "bestPace", x.bestPace(holds, walks, hold), m.bestPace(walks, hold));
        DUE.is(at + "bestHold", x.bestHold(holds, walks, pace), m.bestHold(walks, pace));
        DUE.is(at + "bestChange", x.bestChange(holds, walks, hold, pace), m.bestChange(holds, walks, hold, pace));
        boolean better = Model.sooner(m.race(holds, hold, pace).time(), e.time());
        DUE.is(at + "whoFirst", x.whoFirst(holds, walks, hold, pace), better ? 1 : 0);
        DUE.is(at + "relay", x.relay(holds, walks, hold, pace), m.relay(holds, walks, hold, pace));
        int heavy = m.heavy(holds, walks, hold, pace);
        DUE.is(at + "heavy", x.heavy(holds, walks, hold, pace), heavy);
    }

    private static void oneOf(String at, Model m, HandsForAWheel x, Random r, int walks, int hold, int pace) {
        int yard = r.nextInt(m.yards);
        int kind = m.kind[m.lane][yard];
        int figure = m.figure[m.lane][yard];
        int[] p = m.people.get(walks);
        DUE.is(at + "feels 0", x.feels(yard, walks, hold, pace, 0), Model.load(kind, figure, p[1], hold));
        DUE.is(at + "feels 1", x.feels(yard, walks, hold, pace, 1), Model.tenths(kind, figure, hold, pace));
        DUE.is(at + "feels 2", x.feels(yard, walks, hold, pace, 2), Model.limit(kind, p[2]));
        DUE.is(at + "inHer", x.inHer(walks, hold, pace), m.race(walks, hold, pace).yardsWithoutRest);
        DUE.is(at + "worst", x.worst(walks, hold, pace), m.worst(walks, hold, pace));
        int t = r.nextInt(10) == 0 ? 0 : r.nextInt(1200);
        DUE.is(at + "handicap", x.handicap(walks, hold, pace, t), m.handicap(walks, hold, pace, t));
        DUE.is(at + "longest", x.longest(walks, hold, pace, t), m.longest(walks, hold, pace, t));
        DUE.is(at + "careful", x.careful(walks, hold), m.careful(walks, hold));
        DUE.is(at + "practice", x.practice(walks, hold, pace), m.practice(walks, hold, pace));
        DUE.is(at + "half", x.half(walks, hold, pace), m.half(walks, hold, pace));
        DUE.is(at + "turnedRound", x.turnedRound(walks, hold, pace), m.turnedRound(walks, hold, pace));
        DUE.is(at + "bestLane", x.bestLane(walks, hold, pace), m.bestLane(walks, hold, pace));
        DUE.is(at + "rain", x.rain(walks, hold, pace), m.rain(walks, hold, pace));
        int n = 1 + r.nextInt(20);
        int z = r.nextInt();
        int[] lots = m.lots(walks, hold, pace, n, z);
        DUE.is(at + "lots 0", x.lots(walks, hold, pace, n, z, 0), lots[0]);
        DUE.is(at + "lots 1", x.lots(walks, hold, pace, n, z, 1), lots[1]);
        rowOf(at, m, x, p[2], walks, pace);
    }

    private static void rowOf(String at, Model m, HandsForAWheel x, int hands, int walks, int pace) {
        List<Integer> row = m.noses(hands, pace);
        x.clear();
        for (int i = 0; i < row.size() && i < 12; i++) {
            x.row(row.get(i));
        }
        if (row.size() > 12) {
            row = row.subList(0, 12);
        }
        int paces = 0;
        int hers = 0;
        for (int i = 1; i <= 9; i++) {
            paces |= m.noses(hands, i).equals(row) ? 1 << i : 0;
            hers |= m.noses(i, pace).equals(row) ? 1 << i : 0;
        }
        DUE.is(at + "pushed", x.pushed(walks), paces);
        DUE.is(at + "whose", x.whose(pace), hers);
    }

    private static void manyOf(String at, Model m, HandsForAWheel x, Random r, int hold, int pace) {
        if (m.people.size() % 2 == 0) {
            int[] pairs = m.pairs(hold, pace);
            for (int what = 0; what < 3; what++) {
                DUE.is(at + "pairs " + what, x.pairs(hold, pace, what), pairs[what]);
            }
        }
        int a = r.nextInt(m.people.size());
        int b = (a + 1) % m.people.size();
        int c = (a + 2) % m.people.size();
        int d = (a + 3) % m.people.size();
        DUE.is(at + "game", x.game(a, b, c, d, hold, pace), m.game(b, d, hold, pace));
        int late = r.nextInt(200);
        DUE.is(at + "catches", x.catches(a, b, c, d, pace, late), m.catches(b, d, pace, late));
        int bestTurn = -9;
        for (int turn = 9; turn >= 1; turn--) {
            int time = m.team(turn, hold, pace);
            DUE.is(at + "team " + turn, x.team(turn, hold, pace), time);
            boolean asSoon = bestTurn != -9 && time == m.team(bestTurn, hold, pace);
            if (asSoon || Model.sooner(time, bestTurn == -9 ? -9 : m.team(bestTurn, hold, pace))) {
                bestTurn = turn;
            }
        }
        DUE.is(at + "bestTurn", x.bestTurn(hold, pace), bestTurn);
        List<Integer> ladder = m.ladder(hold, pace);
        int i = r.nextInt(ladder.size() + 2);
        DUE.is(at + "ladder " + i, x.ladder(hold, pace, i), i < ladder.size() ? ladder.get(i) : -9);
        DUE.is(at + "fair", x.fair(hold, pace), m.fair(hold, pace));
        int f = r.nextInt(61);
        DUE.is(at + "cup", x.cup(f, pace), m.cup(f, pace));
        int best = 60;
        for (int g = 60; g >= 0; g--) {
            best = m.cup(g, pace) >= m.cup(best, pace) ? g : best;
        }
        DUE.is(at + "bestCup", x.bestCup(pace), best);
    }

    private static void findsLanes(int seed, Random r, Model m) {
        HandsForAWheel x = m.object();
        int hold = r.nextInt(3);
        int pace = 1 + r.nextInt(9);
        int[] lanes = m.lanes(0, hold, pace);
        for (int y = -1; y < m.yards; y++) {
            DUE.is("lanes " + seed + " " + y, x.lanes(0, hold, pace, y), lanes == null ? -9 : lanes[y + 1]);
        }
    }

    private static void findsSoonest(int seed, Random r, Model m, boolean all) {
        HandsForAWheel x = m.object();
        int hold = r.nextInt(3);
        String at = "soonest " + seed + " ";
        int[] way = all ? m.soonest(0, hold) : m.soonestFar(0, hold);
        DUE.is(at, x.soonest(0, hold, -1, 0), way == null ? -9 : way[0]);
        for (int y = 0; y < m.yards; y++) {
            DUE.is(at + "pace " + y, x.soonest(0, hold, y, 0), way == null ? -9 : way[2 + 2 * y]);
            DUE.is(at + "rests " + y, x.soonest(0, hold, y, 1), way == null ? -9 : way[1 + 2 * y]);
        }
        int best = m.bestPace(0, hold);
        int sooner = best == -9 ? -9 : m.race(0, hold, best).tenths - way[0];
        DUE.is(at + "even 0", x.even(0, hold, 0), best == -9 ? -9 : sooner == 0 ? 1 : 0);
        DUE.is(at + "even 1", x.even(0, hold, 1), sooner);
    }
}
