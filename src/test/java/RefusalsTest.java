/** Each refusal of promises 2 to 55, their order, and that nothing changes but how many there were. */
public final class RefusalsTest {
    private static final Due DUE = new Due("RefusalsTest");

    /** There are 0 to 3 in ten yards; a hold, a pace and so on that are no refusal by themselves stand for the rest. */
    private static final String TABLE = """
        feed -1 = -4
        feed 256 = -6
        ground -1 0 9 = -1
        ground 2 0 0 = -1
        ground 0 10 0 = -1
        ground 0 -1 0 = -1
        ground 0 0 2 = -2
        ground 0 0 -1 = -2
        yard 2 0 9 0 = -1
        yard 0 10 0 10 = -1
        yard 0 0 6 -1 = -2
        yard 0 0 -1 10 = -2
        yard 0 0 0 -1 = -4
        yard 0 0 0 10 = -6
        one 4 9 = -1
        one -1 0 = -1
        one 0 3 = -2
        person 4 9 0 = -1
        person 0 3 0 = -2
        person 0 -1 99 = -2
        person 0 0 0 = -4
        person 0 0 61 = -6
        person 0 1 10 = -6
        person 0 2 10 = -6
        comes 61 0 1 = -4
        comes 61 1 1 = -6
        yards 0 = -4
        yards 21 = -6
        lane -1 = -1
        lane 2 = -1
        feels 10 0 -1 1 0 = -1
        feels -1 0 0 1 0 = -1
        feels 0 4 0 0 9 = -1
        feels 0 0 -1 10 9 = -4
        feels 0 0 3 0 9 = -4
        feels 0 0 3 1 9 = -6
        feels 0 0 0 10 9 = -6
        feels 0 0 0 1 3 = -2
        feels 0 0 0 1 -1 = -2
        race 0 0 0 1 0 = -1
        race 4 0 -1 1 0 = -1
        race 0 4 0 10 9 = -1
        race -1 0 0 1 0 = -1
        race 0 -1 0 1 0 = -1
        race 0 1 -1 10 9 = -4
        race 0 1 3 0 0 = -4
        race 0 1 3 1 9 = -6
        race 0 1 0 10 9 = -6
        race 0 1 0 1 4 = -2
        race 0 1 0 1 -1 = -2
        raceOver 1 1 0 1 0 = -1
        raceOver 1 4 0 1 1 = -1
        raceOver 4 1 0 1 1 = -1
        raceOver 0 1 -1 10 1 = -4
        raceOver 0 1 3 0 1 = -4
        raceOver 0 1 3 1 0 = -4
        raceOver 0 1 3 1 1 = -6
        raceOver 0 1 0 10 1 = -6
        raceOver 0 1 0 1 10 = -6
        bestPace 1 1 -1 = -1
        bestPace 4 1 0 = -1
        bestPace 1 -1 0 = -1
        bestPace 0 1 -1 = -4
        bestPace 0 1 3 = -6
        bestHold 1 1 0 = -1
        bestHold 0 4 1 = -1
        bestHold 0 1 0 = -4
        bestHold 0 1 10 = -6
        bestChange 1 1 0 0 = -1
        bestChange 0 4 0 1 = -1
        bestChange 0 1 -1 10 = -4
        bestChange 0 1 3 0 = -4
        bestChange 0 1 3 1 = -6
        bestChange 0 1 0 10 = -6
        whoFirst 1 1 0 0 = -1
        whoFirst 4 1 0 1 = -1
        whoFirst 0 1 -1 10 = -4
        whoFirst 0 1 3 0 = -4
        whoFirst 0 1 3 1 = -6
        whoFirst 0 1 0 10 = -6
        soonest 4 -1 0 0 = -1
        soonest 0 -1 10 0 = -1
        soonest 0 3 -2 0 = -1
        soonest -1 0 0 9 = -1
        soonest 0 -1 0 9 = -4
        soonest 0 3 0 9 = -6
        soonest 0 0 0 2 = -2
        soonest 0 0 0 -1 = -2
        soonest 0 0 -1 2 = -2
        lanes 4 -1 1 0 = -1
        lanes 0 0 0 10 = -1
        lanes 0 0 10 -2 = -1
        lanes 0 -1 10 0 = -4
        lanes 0 3 0 0 = -4
        lanes 0 3 1 0 = -6
        lanes 0 0 10 -1 = -6
        heavy 0 0 -1 1 = 1000000001
        heavy 4 0 0 1 = 1000000001
        heavy 0 -1 0 0 = 1000000001
        heavy 0 1 -1 10 = 1000000004
        heavy 0 1 3 0 = 1000000004
        heavy 0 1 3 1 = 1000000006
        heavy 0 1 0 10 = 1000000006
        pairs -1 10 9 = -4
        pairs 3 0 9 = -4
        pairs 3 1 9 = -6
        pairs 0 10 9 = -6
        pairs 0 1 3 = -2
        pairs 0 1 -1 = -2
        game 0 1 2 0 0 1 = -1
        game 0 0 2 3 0 1 = -1
        game 0 1 1 3 0 1 = -1
        game 0 1 2 2 0 0 = -1
        game 0 1 2 1 -1 1 = -1
        game 0 1 0 3 0 1 = -1
        game 0 1 2 4 0 1 = -1
        game 4 1 2 3 0 1 = -1
        game 0 -1 2 3 0 1 = -1
        game 0 1 2 3 -1 10 = -4
        game 0 1 2 3 3 0 = -4
        game 0 1 2 3 3 1 = -6
        game 0 1 2 3 0 10 = -6
        steers -1 9 = 1000000004
        steers 6 9 = 1000000006
        steers 0 2 = 1000000002
        steers 0 -1 = 1000000002
        straight -1 = -4
        straight 100 = -6
        cup -1 10 = -4
        cup 61 0 = -4
        cup 61 1 = -6
        cup 0 10 = -6
        bestCup 0 = -4
        bestCup 10 = -6
        inHer 4 -1 1 = -1
        inHer 0 -1 10 = -4
        inHer 0 3 0 = -4
        inHer 0 3 1 = -6
        inHer 0 0 10 = -6
        laughs 0 = -4
        laughs 21 = -6
        pushed 4 = -1
        pushed -1 = -1
        pushed 0 = -3
        whose 0 = -4
        whose 10 = -6
        whose 1 = -3
        team 0 0 1 = -4
        team 10 -1 1 = -4
        team 1 3 0 = -4
        team 10 0 1 = -6
        team 1 3 1 = -6
        team 1 0 10 = -6
        bestTurn -1 10 = -4
        bestTurn 3 0 = -4
        bestTurn 3 1 = -6
        bestTurn 0 10 = -6
        catches 0 1 2 2 0 0 = -1
        catches 0 1 2 0 1 -1 = -1
        catches 0 1 2 4 1 0 = -1
        catches 0 1 2 3 0 1000 = -4
        catches 0 1 2 3 10 -1 = -4
        catches 0 1 2 3 10 0 = -6
        catches 0 1 2 3 1 1000 = -6
        even 4 -1 0 = -1
        even 0 -1 9 = -4
        even 0 3 9 = -6
        even 0 0 2 = -2
        even 0 0 -1 = -2
        worst 4 -1 1 = -1
        worst 0 -1 10 = -4
        worst 0 3 0 = -4
        worst 0 3 1 = -6
        worst 0 0 10 = -6
        handicap 4 -1 1 0 = -1
        handicap 0 -1 10 0 = -4
        handicap 0 3 0 0 = -4
        handicap 0 3 1 -1 = -4
        handicap 0 3 1 0 = -6
        handicap 0 0 10 0 = -6
        handicap 0 0 1 10000 = -6
        ladder -1 10 0 = -4
        ladder 3 0 0 = -4
        ladder 3 1 -1 = -4
        ladder 3 1 0 = -6
        ladder 0 10 99 = -6
        careful 4 -1 = -1
        careful 0 -1 = -4
        careful 0 3 = -6
        practice 4 -1 1 = -1
        practice 0 -1 10 = -4
        practice 0 3 0 = -4
        practice 0 3 1 = -6
        practice 0 0 10 = -6
        half 4 -1 1 = -1
        half 0 -1 10 = -4
        half 0 3 0 = -4
        half 0 3 1 = -6
        half 0 0 10 = -6
        turnedRound 4 -1 1 = -1
        turnedRound 0 -1 10 = -4
        turnedRound 0 3 0 = -4
        turnedRound 0 3 1 = -6
        turnedRound 0 0 10 = -6
        bestLane 4 -1 1 = -1
        bestLane 0 -1 10 = -4
        bestLane 0 3 0 = -4
        bestLane 0 3 1 = -6
        bestLane 0 0 10 = -6
        rain 4 -1 1 = 1000000001
        rain 0 -1 10 = 1000000004
        rain 0 3 0 = 1000000004
        rain 0 3 1 = 1000000006
        rain 0 0 10 = 1000000006
        relay 0 0 -1 1 = -1
        relay 4 0 0 1 = -1
        relay 0 4 0 1 = -1
        relay 0 1 -1 10 = -4
        relay 0 1 3 0 = -4
        relay 0 1 3 1 = -6
        relay 0 1 0 10 = -6
        longest 4 -1 1 0 = -1
        longest 0 -1 10 0 = -4
        longest 0 3 0 0 = -4
        longest 0 3 1 -1 = -4
        longest 0 3 1 0 = -6
        longest 0 0 10 0 = -6
        longest 0 0 1 10000 = -6
        fair -1 10 = -4
        fair 3 0 = -4
        fair 3 1 = -6
        fair 0 10 = -6
        row -1 = -4
        row 100 = -6
        judge -1 10 = -4
        judge 3 0 = -4
        judge 3 1 = -6
        judge 0 10 = -6
        lots 4 -1 1 1 0 0 = -1
        lots 0 -1 10 1 0 0 = -4
        lots 0 3 0 1 0 0 = -4
        lots 0 3 1 0 0 9 = -4
        lots 0 3 1 1 0 9 = -6
        lots 0 0 10 1 0 9 = -6
        lots 0 0 1 21 0 9 = -6
        lots 0 0 1 1 0 2 = -2
        lots 0 0 1 1 0 -1 = -2
        restore = -3
        """;

    public static void main(String[] args) {
        for (String line : TABLE.strip().split("\n")) {
            refuses(line.strip().split(" = "));
        }
        withFewPeople();
        full();
        farNumbers();
        DUE.end();
    }

    /** One refused call on an object that has something of everything; then all is as it was, but for the count. */
    private static void refuses(String[] sides) {
        HandsForAWheel x = Due.of("p2045;p3063;p3045;p3333;");
        x.yard(1, 3, 5, 7);
        x.row(3);
        x.row(3);
        x.feed('n');
        String before = all(x);
        int due = Integer.parseInt(sides[1]);
        DUE.is(sides[0], Due.call(x, sides[0]), due);
        DUE.is("what changed by " + sides[0], all(x).equals(before) ? 0 : 1, 0);
        int number = due > 0 ? due - 1000000000 : -due;
        for (int i = 1; i <= 6; i++) {
            DUE.is("refusals -" + i + " after " + sides[0], x.count(10 + i), i == number ? 1 : 0);
        }
    }

    private static String all(HandsForAWheel x) {
        StringBuilder all = new StringBuilder();
        for (int i = 0; i <= 6; i++) {
            all.append(x.count(i)).append(' ');
        }
        for (int yard = 0; yard < 10; yard++) {
            for (int lane = 0; lane < 2; lane++) {
                all.append(x.ground(lane, yard, 0)).append(x.ground(lane, yard, 1)).append(' ');
            }
        }
        for (int person = 0; person < x.count(0); person++) {
            all.append(x.one(person, 0)).append(' ').append(x.one(person, 1)).append(x.one(person, 2)).append(' ');
        }
        return all.toString();
    }

    private static void withFewPeople() {
        DUE.all(new HandsForAWheel(), """
            back = -3
            pairs 0 1 0 = -3
            pairs 0 1 3 = -2
            pairs 0 10 0 = -6
            pairs -1 1 0 = -4
            team 0 0 1 = -3
            team 10 0 1 = -3
            bestTurn 0 0 = -3
            pushed 0 = -1
            whose 3 = 1016
            soonest 0 0 -1 0 = -1
            lanes 0 0 1 -1 = -1
            ladder 0 1 -1 = -4
            ladder 3 1 0 = -6
            count 13 = 5
            count 11 = 3
            count 12 = 1
            count 14 = 2
            count 16 = 2
            count 15 = 0
            """);
    }

    private static void full() {
        HandsForAWheel x = Due.of("p2045;p3063;p3045;p3333;p1111;p1111;");
        DUE.is("no room for one more", x.comes(1, 1, 1), -6);
        for (int i = 0; i < 12; i++) {
            x.row(i);
        }
        DUE.is("no room in the row", x.row(1), -6);
        DUE.is("no room in the row, below", x.row(-1), -4);
        DUE.is("the row", x.count(5), 12);
        DUE.is("the people", x.count(0), 6);
    }

    /** Numbers far off are refused like near ones, and nothing throws. */
    private static void farNumbers() {
        int[] far = {Integer.MIN_VALUE, Integer.MAX_VALUE, -1000000000, 1000000000, 1 << 16};
        for (java.lang.reflect.Method m : HandsForAWheel.class.getDeclaredMethods()) {
            if (!java.lang.reflect.Modifier.isPublic(m.getModifiers())) {
                continue;
            }
            int n = m.getParameterCount();
            for (int which = 0; which < n; which++) {
                HandsForAWheel x = Due.of("p2045;p3063;p3045;p3333;");
                for (int number : far) {
                    StringBuilder call = new StringBuilder(m.getName());
                    for (int i = 0; i < n; i++) {
                        call.append(' ').append(i == which ? number : 1);
                    }
                    DUE.is(call + " goes back", Due.call(x, call.toString()) == 12345678 ? 1 : 0, 0);
                }
            }
        }
    }
}
