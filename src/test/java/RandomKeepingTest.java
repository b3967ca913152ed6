import java.util.ArrayDeque;
import java.util.ArrayList;
import java.util.Deque;
import java.util.List;
import java.util.Random;

/** Random runs of calls that change what is kept: promises 1 to 11, 49 to 51 and 53 to 55 against the model. */
public final class RandomKeepingTest {
    private static final Due DUE = new Due("RandomKeepingTest");

    private final Random r;
    private final HandsForAWheel x = new HandsForAWheel();
    private Model m = new Model();
    private Model image = null;
    private final Deque<Model> before = new ArrayDeque<>();
    private final StringBuilder text = new StringBuilder();
    private final List<Integer> row = new ArrayList<>();
    private final int[] refusals = new int[7];

    private RandomKeepingTest(int seed) {
        r = new Random(seed);
    }

    public static void main(String[] args) {
        for (int seed = 0; seed < 200; seed++) {
            RandomKeepingTest run = new RandomKeepingTest(seed);
            for (int i = 0; i < 60; i++) {
                run.calls("seed " + seed + "." + i + " ");
            }
        }
        DUE.end();
    }

    private void calls(String at) {
        switch (r.nextInt(14)) {
            case 0:
            case 1:
                changesYard(at);
                break;
            case 2:
            case 3:
                changesPerson(at);
                break;
            case 4:
                changesLane(at);
                break;
            case 5:
                comesOrYards(at);
                break;
            case 6:
            case 7:
                takesBack(at);
                break;
            case 8:
                tells(at);
                break;
            case 9:
                images(at);
                break;
            case 10:
                rows(at);
                break;
            case 11:
                judges(at);
                break;
            default:
                looks(at);
                break;
        }
        counts(at);
    }

    /** -1 .. above most. */
    private int about(int most) {
        return r.nextInt(8) == 0 ? -1 : r.nextInt(8) == 0 ? most + 1 : r.nextInt(most + 1);
    }

    private int refused(int number) {
        refusals[-number]++;
        return number;
    }

    private void keeps() {
        before.addLast(m.copy());
        if (before.size() > 8) {
            before.removeFirst();
        }
    }

    private boolean noGround(int lane, int yard) {
        return lane < 0 || lane > 1 || yard < 0 || yard >= m.yards;
    }

    private void changesYard(String at) {
        int lane = about(1);
        int yard = about(m.yards - 1);
        int kind = about(5);
        int figure = about(9);
        int want;
        if (noGround(lane, yard)) {
            want = refused(-1);
        } else if (kind < 0 || kind > 5) {
            want = refused(-2);
        } else if (figure < 0) {
            want = refused(-4);
        } else if (figure > 9) {
            want = refused(-6);
        } else {
            keeps();
            want = 10 * m.kind[lane][yard] + m.figure[lane][yard];
            m.kind[lane][yard] = kind;
            m.figure[lane][yard] = figure;
        }
        DUE.is(at + "yard", x.yard(lane, yard, kind, figure), want);
    }

    private void changesPerson(String at) {
        int person = about(Math.max(0, m.people.size() - 1));
        int what = about(2);
        int v = about(r.nextBoolean() ? 9 : 60);
        int want;
        if (person < 0 || person >= m.people.size()) {
            want = refused(-1);
        } else if (what < 0 || what > 2) {
            want = refused(-2);
        } else if (v < 1) {
            want = refused(-4);
        } else if (v > (what == 0 ? 60 : 9)) {
            want = refused(-6);
        } else {
            keeps();
            want = m.people.get(person)[what];
            m.people.get(person)[what] = v;
        }
        DUE.is(at + "person", x.person(person, what, v), want);
    }

    private void changesLane(String at) {
        int lane = about(1);
        int want;
        if (lane < 0 || lane > 1) {
            want = refused(-1);
        } else {
            keeps();
            want = m.lane;
            m.lane = lane;
        }
        DUE.is(at + "lane", x.lane(lane), want);
    }

    private void comesOrYards(String at) {
        int want;
        if (r.nextBoolean()) {
            int n = about(20);
            if (n < 1) {
                want = refused(-4);
            } else if (n > 20) {
                want = refused(-6);
            } else {
                want = m.yards;
                m.yards = n;
                before.clear();
            }
            DUE.is(at + "yards", x.yards(n), want);
            return;
        }
        int[] p = {about(60), about(9), about(9)};
        if (p[0] < 1 || p[1] < 1 || p[2] < 1) {
            want = refused(-4);
        } else if (p[0] > 60 || p[1] > 9 || p[2] > 9 || m.people.size() == 6) {
            want = refused(-6);
        } else {
            m.people.add(p);
            want = m.people.size() - 1;
            before.clear();
        }
        DUE.is(at + "comes", x.comes(p[0], p[1], p[2]), want);
    }

    private void takesBack(String at) {
        int want;
        if (before.isEmpty()) {
            want = refused(-3);
        } else {
            m = before.removeLast();
            want = before.size();
        }
        DUE.is(at + "back", x.back(), want);
    }

    private void images(String at) {
        if (r.nextInt(3) == 0) {
            image = m.copy();
            DUE.is(at + "image", x.image(), m.people.size());
            return;
        }
        int want;
        if (image == null) {
            want = refused(-3);
        } else {
            m = image.copy();
            before.clear();
            want = m.people.size();
        }
        DUE.is(at + "restore", x.restore(), want);
    }

    private void rows(String at) {
        int v = r.nextInt(4) == 0 ? about(99) : r.nextInt(30);
        int want;
        if (r.nextInt(12) == 0) {
            want = row.size();
            row.clear();
            DUE.is(at + "clear", x.clear(), want);
            return;
        }
        if (v < 0) {
            want = refused(-4);
        } else if (v > 99 || row.size() == 12) {
            want = refused(-6);
        } else {
            row.add(v);
            want = row.size();
        }
        DUE.is(at + "row", x.row(v), want);
    }

    private void judges(String at) {
        int hold = about(2);
        int pace = about(9);
        if (hold < 0 || pace < 1) {
            DUE.is(at + "judge", x.judge(hold, pace), refused(-4));
            return;
        }
        if (hold > 2 || pace > 9) {
            DUE.is(at + "judge", x.judge(hold, pace), refused(-6));
            return;
        }
        int right = Math.min(m.yards, 12);
        if (r.nextBoolean()) {
            // As it is, but perhaps with a number more or less right.
            right = r.nextInt(right + 1);
            x.clear();
            row.clear();
            for (int y = 0; y < right; y++) {
                row.add(Model.tenths(m.kind[m.lane][y], m.figure[m.lane][y], hold, pace));
                x.row(row.get(y));
            }
            if (r.nextBoolean() && row.size() < 12) {
                row.add(r.nextInt(40));
                x.row(row.get(row.size() - 1));
            }
        }
        int want = -9;
        for (int i = row.size() - 1; i >= 0; i--) {
            if (i >= m.yards || row.get(i) != Model.tenths(m.kind[m.lane][i], m.figure[m.lane][i], hold, pace)) {
                want = i;
            }
        }
        row.clear();
        DUE.is(at + "judge", x.judge(hold, pace), want);
    }

    private void looks(String at) {
        int lane = about(1);
        int yard = about(m.yards - 1);
        int what = about(1);
        int want;
        if (noGround(lane, yard)) {
            want = refused(-1);
        } else if (what < 0 || what > 1) {
            want = refused(-2);
        } else {
            want = what == 0 ? m.kind[lane][yard] : m.figure[lane][yard];
        }
        DUE.is(at + "ground", x.ground(lane, yard, what), want);
        int person = about(Math.max(0, m.people.size() - 1));
        int of = about(2);
        if (person < 0 || person >= m.people.size()) {
            want = refused(-1);
        } else if (of < 0 || of > 2) {
            want = refused(-2);
        } else {
            want = m.people.get(person)[of];
        }
        DUE.is(at + "one", x.one(person, of), want);
    }

    private void counts(String at) {
        DUE.is(at + "count 6", x.count(6), before.size());
        int what = r.nextInt(20) - 1;
        int allArms = 0;
        for (int[] p : m.people) {
            allArms += p[0];
        }
        int[] all = {m.people.size(), m.yards, m.lane, allArms, text.length(), row.size(), before.size()};
        int want = what >= 0 && what <= 6 ? all[what] : what >= 11 && what <= 16 ? refusals[what - 10] : -9;
        DUE.is(at + "count " + what, x.count(what), want);
    }

    // ---- Letters

    private void tells(String at) {
        if (r.nextInt(30) == 0) {
            DUE.is(at + "feed", x.feed(-1), refused(-4));
            DUE.is(at + "feed", x.feed(256), refused(-6));
        }
        int statements = r.nextInt(4);
        for (int i = 0; i < statements; i++) {
            feeds(at, statement());
        }
        if (r.nextInt(4) != 0) {
            int want = toldBy(text.toString());
            text.setLength(0);
            DUE.is(at + "field", x.field(), want);
        }
    }

    private String statement() {
        String one;
        switch (r.nextInt(5)) {
            case 0:
                one = String.format("n%02d;", r.nextInt(22));
                break;
            case 1:
                one = String.format("p%02d%d%d;", r.nextInt(63), r.nextInt(10), r.nextInt(10));
                break;
            case 2:
                one = String.format("l%d;", r.nextInt(10) == 0 ? 2 : r.nextInt(2));
                break;
            default:
                int lane = r.nextInt(10) == 0 ? 2 : r.nextInt(2);
                int kind = r.nextInt(10) == 0 ? 6 : r.nextInt(6);
                one = String.format("y%d%02d%d%d;", lane, r.nextInt(m.yards), kind, r.nextInt(10));
                break;
        }
        if (r.nextInt(12) == 0) {
            int place = r.nextInt(one.length());
            one = one.substring(0, place) + (char) r.nextInt(256) + one.substring(place + 1);
        }
        return r.nextInt(25) == 0 ? one.substring(0, r.nextInt(one.length())) : one;
    }

    private void feeds(String at, String letters) {
        for (char c : letters.toCharArray()) {
            int want;
            if (text.length() == 96) {
                want = refused(-6);
            } else {
                text.append(c);
                want = text.length();
            }
            DUE.is(at + "feed", x.feed(c), want);
        }
    }

    private int toldBy(String all) {
        String shapes = "n00; y00000; p0000; l0;";
        int place = 0;
        List<Integer> starts = new ArrayList<>();
        do {
            starts.add(place);
            int shape = place < all.length() ? shapes.indexOf(all.charAt(place)) : -1;
            if (shape < 0 || " 0;".indexOf(all.charAt(place)) >= 0) {
                return -1000 - place;
            }
            while (shapes.charAt(shape) != ';') {
                shape++;
                place++;
                if (place >= all.length()) {
                    return -1000 - place;
                }
                char c = all.charAt(place);
                boolean fits = shapes.charAt(shape) == ';' ? c == ';' : c >= '0' && c <= '9';
                if (!fits) {
                    return -1000 - place;
                }
            }
            place++;
        } while (place < all.length());
        Model after = m.copy();
        for (int start : starts) {
            if (!comes(after, all.substring(start, all.indexOf(';', start)))) {
                return -2000 - start;
            }
        }
        m = after;
        before.clear();
        return starts.size();
    }

    private static boolean comes(Model after, String one) {
        int number = Integer.parseInt(one.substring(1));
        switch (one.charAt(0)) {
            case 'n':
                after.yards = number;
                return number >= 1 && number <= 20;
            case 'l':
                after.lane = number;
                return number <= 1;
            case 'p':
                int[] p = {number / 100, number / 10 % 10, number % 10};
                after.people.add(p);
                return p[0] >= 1 && p[0] <= 60 && p[1] >= 1 && p[2] >= 1 && after.people.size() <= 6;
            default:
                int lane = number / 10000;
                int yard = number / 100 % 100;
                int kind = number / 10 % 10;
                if (lane > 1 || yard >= after.yards || kind > 5) {
                    return false;
                }
                after.kind[lane][yard] = kind;
                after.figure[lane][yard] = number % 10;
                return true;
        }
    }
}
