import java.lang.reflect.Method;
import java.util.ArrayList;
import java.util.Arrays;
import java.util.HashMap;
import java.util.LinkedHashSet;
import java.util.List;
import java.util.Map;
import java.util.Set;

/**
 * THE REFUSALS of every call: the least and the greatest number of each range, the one below, the one above and those
 * far off, all together with all; the order where several fit; that only their number changes by a refused call. In an
 * object that has nothing, in one that has something and in one that is full.
 */
public final class RangesTest {
    private static final Due DUE = new Due("RangesTest");

    /**
     * Each call with what its numbers are and the order of its refusals. "two" are PEOPLE of whom none may be told
     * twice, "all" is a YARD or -1, "v" is a number whose greatest hangs on the what ahead of it.
     */
    private static final String TABLE = """
        feed 0..255 : -4 -6
        ground lane yard 0what1 : -1 -2
        yard lane yard 0what5 0..9 : -1 -2 -4 -6
        one person 0what2 : -1 -2
        person person 0what2 v : -1 -2 -4 -6
        comes 1..60 1..9 1..9 : -4 -6
        yards 1..20 : -4 -6
        lane lane : -1
        back : -3
        feels yard person hold pace 0what2 : -1 -4 -6 -2
        race two two hold pace 0what3 : -1 -4 -6 -2
        raceOver two two hold pace c : -1 -4 -6
        bestPace two two hold : -1 -4 -6
        bestHold two two pace : -1 -4 -6
        bestChange two two hold pace : -1 -4 -6
        whoFirst two two hold pace : -1 -4 -6
        soonest person hold all 0what1 : -1 -4 -6 -2
        lanes person hold pace all : -1 -4 -6
        heavy two two hold pace : -1 -4 -6
        pairs hold pace 0what2 : -4 -6 -2 -3
        game two two two two hold pace : -1 -4 -6
        steers 0..5 0what1 : -4 -6 -2
        straight 0..99 : -4 -6
        cup 0..60 pace : -4 -6
        bestCup pace : -4 -6
        inHer person hold pace : -1 -4 -6
        laughs 1..20 : -4 -6
        bestStop :
        pushed person : -1 -3
        whose pace : -4 -6 -3
        team 1..9 hold pace : -3 -4 -6
        bestTurn hold pace : -3 -4 -6
        catches two two two two pace 0..999 : -1 -4 -6
        even person hold 0what1 : -1 -4 -6 -2
        worst person hold pace : -1 -4 -6
        handicap person hold pace 0..9999 : -1 -4 -6
        ladder hold pace i : -4 -6
        careful person hold : -1 -4 -6
        practice person hold pace : -1 -4 -6
        half person hold pace : -1 -4 -6
        turnedRound person hold pace : -1 -4 -6
        bestLane person hold pace : -1 -4 -6
        rain person hold pace : -1 -4 -6
        relay two two hold pace : -1 -4 -6
        longest person hold pace 0..9999 : -1 -4 -6
        fair hold pace : -4 -6
        row 0..99 : -4 -6
        judge hold pace : -4 -6
        clear :
        lots person hold pace 1..20 z 0what1 : -1 -4 -6 -2
        image :
        restore : -3
        count z :
        field :
        """;

    private final boolean some;
    private final boolean full;
    private final int people;
    private final int yards;
    private final long untouched;

    private RangesTest(boolean some, boolean full) {
        this.some = some;
        this.full = full;
        HandsForAWheel x = made();
        people = x.count(0);
        yards = x.count(1);
        untouched = all(x);
    }

    public static void main(String[] args) throws ReflectiveOperationException {
        for (RangesTest state : List.of(new RangesTest(false, false), new RangesTest(true, false), new RangesTest(true, true))) {
            for (String line : TABLE.strip().split("\n")) {
                state.looksAt(line.strip().split(" ?:")[0].split(" "), line.replaceAll(".*:", "").strip());
            }
        }
        DUE.is("calls in the table", TABLE.strip().split("\n").length, 54);
        DUE.end();
    }

    /** One that has nothing, in one yard; one with four in ten yards; or one with all that there is room for. */
    private HandsForAWheel made() {
        HandsForAWheel x = new HandsForAWheel();
        if (!some) {
            x.yards(1);
            return x;
        }
        x = Due.of(full ? "n20;p2045;p3063;p3045;p6011;p1111;p0199;" : "p2045;p3063;p3045;p6011;");
        for (int i = 0; i < (full ? 12 : 3); i++) {
            x.row(full ? i : 27);
        }
        if (full) {
            x.image();
        }
        for (int i = 0; i < (full ? 8 : 1); i++) {
            x.person(i % 4, 0, 21 + i);
        }
        Due.feed(x, full ? "n19;".repeat(24) : "n07;");
        return x;
    }

    // ---- What there is to call, and what is due

    private void looksAt(String[] words, String order) throws ReflectiveOperationException {
        Class<?>[] types = new Class<?>[words.length - 1];
        Arrays.fill(types, int.class);
        Method call = HandsForAWheel.class.getMethod(words[0], types);
        int[][] choices = new int[words.length - 1][];
        for (int i = 1; i < words.length; i++) {
            choices[i - 1] = choices(words[i], i - 1, words.length > 5);
        }
        int[] at = new int[choices.length];
        boolean more = true;
        while (more) {
            int[] numbers = new int[choices.length];
            for (int i = 0; i < numbers.length; i++) {
                numbers[i] = choices[i][at[i]];
            }
            calls(call, words, numbers, due(words, numbers, order));
            more = false;
            for (int i = 0; i < at.length && !more; i++) {
                at[i] = (at[i] + 1) % choices[i].length;
                more = at[i] != 0;
            }
        }
    }

    /** The least, the greatest, one below, one above and, if there are not too many numbers, those far off. */
    private int[] choices(String word, int place, boolean few) {
        Set<Integer> choices = new LinkedHashSet<>();
        if (!few) {
            choices.add(Integer.MIN_VALUE);
        }
        if (word.equals("two")) {
            choices.addAll(List.of(-1, place, people - 1, people));
        } else if (word.equals("z")) {
            choices.addAll(List.of(Integer.MIN_VALUE, 0));
        } else {
            choices.addAll(List.of(least(word) - 1, least(word)));
            choices.addAll(word.equals("v") ? List.of(9, 10, 60, 61) : List.of(most(word), most(word) + 1));
        }
        if (!few) {
            choices.add(Integer.MAX_VALUE);
        }
        return choices.stream().mapToInt(Integer::intValue).toArray();
    }

    private static int least(String word) {
        if (word.contains("..")) {
            return Integer.parseInt(word.split("\\.\\.")[0]);
        }
        return word.equals("pace") || word.equals("c") || word.equals("v") ? 1 : word.equals("all") ? -1 : 0;
    }

    private int most(String word) {
        if (word.contains("..")) {
            return Integer.parseInt(word.split("\\.\\.")[1]);
        }
        if (word.contains("what")) {
            return Integer.parseInt(word.substring(5));
        }
        Map<String, Integer> most = new HashMap<>();
        most.put("hold", 2);
        most.put("pace", 9);
        most.put("lane", 1);
        most.put("person", people - 1);
        most.put("two", people - 1);
        most.put("yard", yards - 1);
        most.put("all", yards - 1);
        most.put("c", yards - 1);
        most.put("i", 30);
        return most.get(word);
    }

    /** 0 if it is not refused. */
    private int due(String[] words, int[] numbers, String order) {
        for (String number : order.isEmpty() ? new String[0] : order.split(" ")) {
            int refusal = Integer.parseInt(number);
            boolean fits = refusal == -3 ? notAsTold(words[0]) : refusal == -6 && noRoom(words[0]);
            for (int i = 0; i < numbers.length; i++) {
                fits |= fits(refusal, words, i, numbers);
            }
            if (fits) {
                return refusal;
            }
        }
        return 0;
    }

    private boolean fits(int refusal, String[] words, int i, int[] numbers) {
        String word = words[i + 1];
        if (word.equals("z")) {
            return false;
        }
        int v = numbers[i];
        int most = word.equals("v") ? numbers[i - 1] == 0 ? 60 : 9 : most(word);
        boolean below = v < least(word);
        boolean above = v > most && !word.equals("i");
        switch (refusal) {
            case -1:
                return List.of("person", "two", "yard", "all", "lane").contains(word) && (below || above || twice(words, i, numbers));
            case -2:
                return word.contains("what") && (below || above);
            default:
                boolean number = word.contains("..") || List.of("hold", "pace", "c", "v", "i").contains(word);
                return number && (refusal == -4 ? below : refusal == -6 && above);
        }
    }

    private static boolean twice(String[] words, int i, int[] numbers) {
        boolean twice = false;
        for (int k = 0; k < i; k++) {
            twice |= words[i + 1].equals("two") && words[k + 1].equals("two") && numbers[k] == numbers[i];
        }
        return twice;
    }

    private boolean noRoom(String call) {
        return full && List.of("feed", "comes", "row").contains(call);
    }

    private boolean notAsTold(String call) {
        switch (call) {
            case "back":
                return !some;
            case "restore":
                return !full;
            case "pairs":
            case "team":
            case "bestTurn":
                return !some;
            default:
                // Three times 27 does not rise; nothing does, and 0 to 11, too.
                return some && !full;
        }
    }

    // ---- Calling

    private void calls(Method call, String[] words, int[] numbers, int due) throws ReflectiveOperationException {
        HandsForAWheel x = made();
        Object[] given = new Object[numbers.length];
        for (int i = 0; i < given.length; i++) {
            given[i] = numbers[i];
        }
        String told = call.getName() + Arrays.toString(numbers) + " with " + people;
        int answer = (Integer) call.invoke(x, given);
        List<Integer> counts = new ArrayList<>();
        for (int i = 1; i <= 6; i++) {
            counts.add(x.count(10 + i));
        }
        for (int i = 1; i <= 6; i++) {
            DUE.is(told + ": refusals -" + i, counts.get(i - 1), i == -due ? 1 : 0);
        }
        if (due != 0) {
            boolean far = List.of("heavy", "steers", "rain").contains(words[0]);
            DUE.is(told, answer, far ? 1000000000 - due : due);
            DUE.is(told + ": nothing else changes", all(x), untouched);
        }
    }

    /** All that can be known of an object without its refusals; with what made it, some 500 of its 512 calls. */
    private static long all(HandsForAWheel x) {
        long all = looks(x, 7);
        all = 31 * all + x.pushed(0);
        all = 31 * all + x.whose(2);
        all = 31 * all + x.judge(0, 1);
        for (int i = 0; i < 9; i++) {
            all = 31 * all + x.back();
        }
        all = looks(x, all);
        all = 31 * all + x.field();
        all = 31 * all + x.count(1);
        all = 31 * all + x.restore();
        return looks(x, all);
    }

    private static long looks(HandsForAWheel x, long before) {
        long all = before;
        for (int what = 0; what <= 6; what++) {
            all = 31 * all + x.count(what);
        }
        int yards = x.count(1);
        for (int yard = 0; yard < yards; yard++) {
            for (int lane = 0; lane < 2; lane++) {
                all = 31 * all + 10 * x.ground(lane, yard, 0) + x.ground(lane, yard, 1);
            }
        }
        int people = x.count(0);
        for (int person = 0; person < people; person++) {
            for (int what = 0; what < 3; what++) {
                all = 31 * all + x.one(person, what);
            }
        }
        return all;
    }
}
