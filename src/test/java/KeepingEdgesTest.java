/**
 * Promises 9 to 11, 49, 51 and 53 to 55: what can be TAKEN BACK, THE IMAGE, the ROW and the counts, with none, with one,
 * with all that there is room for and one more. All reckoned by hand.
 */
public final class KeepingEdgesTest {
    private static final Due DUE = new Due("KeepingEdgesTest");

    private static final String SIX = "p1011;p1111;p1211;p1311;p1411;p6099;";

    public static void main(String[] args) {
        noneEightAndNine();
        allAsItWasCounts();
        whatIsTakenBack();
        refusedOnesAreNone();
        whatLeavesNone();
        whatLeavesThem();
        takenBackAndChangedAnew();
        noImage();
        imagesOfNobodyAndOfAll();
        allButItself();
        rowsOfNoneAndTwelve();
        counts();
        DUE.end();
    }

    private static void noneEightAndNine() {
        DUE.all(Due.of("p1011;"), """
            count 6 = 0
            back = -3
            count 13 = 1
            person 0 0 21 = 10
            count 6 = 1
            back = 0
            one 0 0 = 10
            back = -3
            person 0 0 21 = 10
            person 0 0 22 = 21
            person 0 0 23 = 22
            person 0 0 24 = 23
            person 0 0 25 = 24
            person 0 0 26 = 25
            person 0 0 27 = 26
            count 6 = 7
            person 0 0 28 = 27
            count 6 = 8
            back = 7
            back = 6
            back = 5
            back = 4
            back = 3
            back = 2
            back = 1
            one 0 0 = 21
            back = 0
            one 0 0 = 10
            back = -3
            one 0 0 = 10
            count 13 = 3
            """);
        HandsForAWheel x = Due.of("p1011;");
        x.lane(1);
        for (int arms = 21; arms <= 28; arms++) {
            x.person(0, 0, arms);
        }
        DUE.is("8 at most", x.count(6), 8);
        for (int left = 7; left >= 0; left--) {
            DUE.is("back", x.back(), left);
        }
        DUE.is("the ninth is too old", x.back(), -3);
        DUE.is("the LANE stays changed", x.count(2), 1);
        DUE.is("the eighth not", x.one(0, 0), 10);
    }

    private static void allAsItWasCounts() {
        DUE.all(Due.of("p1011;"), """
            lane 0 = 0
            count 6 = 1
            person 0 0 10 = 10
            person 0 1 1 = 1
            person 0 2 1 = 1
            yard 1 9 0 0 = 0
            count 6 = 5
            lane 0 = 0
            lane 0 = 0
            lane 0 = 0
            lane 0 = 0
            count 6 = 8
            back = 7
            back = 6
            count 2 = 0
            one 0 0 = 10
            """);
    }

    /** The first and the last of each, one by one, the latest first. */
    private static void whatIsTakenBack() {
        HandsForAWheel x = Due.of("n20;y00012;y11959;y01923;y10034;" + SIX);
        DUE.all(x, """
            yard 0 0 5 9 = 12
            yard 1 19 0 0 = 59
            yard 0 19 4 8 = 23
            yard 1 0 2 7 = 34
            person 0 0 60 = 10
            person 5 2 1 = 9
            person 5 1 2 = 9
            lane 1 = 0
            back = 7
            count 2 = 0
            back = 6
            one 5 1 = 9
            one 5 2 = 1
            back = 5
            one 5 2 = 9
            back = 4
            one 0 0 = 10
            ground 1 0 0 = 2
            back = 3
            ground 1 0 0 = 3
            ground 1 0 1 = 4
            ground 0 19 0 = 4
            back = 2
            ground 0 19 0 = 2
            ground 0 19 1 = 3
            ground 1 19 0 = 0
            back = 1
            ground 1 19 0 = 5
            ground 1 19 1 = 9
            ground 0 0 1 = 9
            back = 0
            ground 0 0 0 = 1
            ground 0 0 1 = 2
            """);
    }

    private static void refusedOnesAreNone() {
        DUE.all(Due.of("p1011;"), """
            lane 2 = -1
            lane -1 = -1
            yard 0 10 0 0 = -1
            yard 0 0 6 0 = -2
            yard 0 0 0 -1 = -4
            yard 0 0 0 10 = -6
            person 1 0 1 = -1
            person 0 3 1 = -2
            person 0 0 0 = -4
            person 0 0 61 = -6
            count 6 = 0
            back = -3
            count 2 = 0
            one 0 0 = 10
            """);
    }

    private static void whatLeavesNone() {
        HandsForAWheel x = Due.of("p1011;");
        x.image();
        String[] calls = {"comes 60 9 9", "yards 20", "yards 1", "restore"};
        for (String call : calls) {
            x.lane(1);
            x.lane(0);
            DUE.is("two", x.count(6), 2);
            DUE.is(call + " is not refused", Due.call(x, call) >= 0 ? 1 : 0, 1);
            DUE.is(call + " leaves none", x.count(6), 0);
            DUE.is(call + " leaves none", x.back(), -3);
        }
        for (String text : new String[] {"n19;", "y00012;", "p1011;", "l1;"}) {
            x.lane(0);
            Due.feed(x, text);
            DUE.is("letters leave it", x.count(6), 1);
            DUE.is("field " + text, x.field(), 1);
            DUE.is(text + " leaves none", x.count(6), 0);
            DUE.is(text + " leaves none", x.back(), -3);
        }
    }

    private static void whatLeavesThem() {
        String[] calls = {"comes 0 1 1", "comes 61 1 1", "yards 0", "yards 21", "restore", "feed 110", "feed -1", "feed 256",
            "field", "field", "image", "row 1", "row 99", "row 100", "pushed 0", "whose 1", "judge 0 1", "judge 3 1", "row 5",
            "clear", "race 0 1 0 1 0", "raceOver 0 1 0 1 1", "bestChange 0 1 0 1", "relay 0 1 0 1", "soonest 0 0 -1 0",
            "lanes 0 0 1 -1", "pairs 0 1 0", "game 0 1 2 3 0 1", "team 1 0 1", "worst 0 0 1", "handicap 0 0 1 9999",
            "practice 0 0 1", "turnedRound 0 0 1", "bestLane 0 0 1", "rain 0 0 1", "lots 0 0 1 20 7 0", "careful 0 0",
            "count 6", "laughs 1", "steers 5 0"};
        HandsForAWheel x = Due.of("n03;y00159;y10033;p2011;p3022;p4033;p5044;");
        x.lane(1);
        x.person(3, 2, 9);
        for (String call : calls) {
            Due.call(x, call);
            DUE.is(call + " leaves them", x.count(6), 2);
            int ground = 10 * x.ground(0, 1, 0) + x.ground(0, 1, 1) + x.ground(1, 0, 0) + x.ground(1, 0, 1);
            DUE.is(call + " leaves the ground", ground, 65);
            DUE.is(call + " leaves the PEOPLE", x.count(0) * 1000 + x.count(3), 4140);
            DUE.is(call + " leaves YARDS and LANE", 10 * x.count(1) + x.count(2), 31);
        }
        DUE.is("back", x.back(), 1);
        DUE.is("HANDS", x.one(3, 2), 4);
    }

    private static void takenBackAndChangedAnew() {
        DUE.all(Due.of("p1011;"), """
            person 0 0 21 = 10
            person 0 0 22 = 21
            back = 1
            person 0 0 23 = 21
            count 6 = 2
            back = 1
            one 0 0 = 21
            back = 0
            one 0 0 = 10
            lane 1 = 0
            image = 1
            back = 0
            count 2 = 0
            lane 1 = 0
            person 0 0 30 = 10
            restore = 1
            count 6 = 0
            count 2 = 1
            one 0 0 = 10
            """);
    }

    // ---- THE IMAGE

    private static void noImage() {
        DUE.all(new HandsForAWheel(), """
            restore = -3
            restore = -3
            count 13 = 2
            yards 5 = 10
            restore = -3
            count 1 = 5
            image = 0
            restore = 0
            count 13 = 3
            """);
    }

    private static void imagesOfNobodyAndOfAll() {
        HandsForAWheel x = new HandsForAWheel();
        DUE.is("of nobody", x.image(), 0);
        DUE.is("a field", Due.field(x, "n20;y00012;y11959;l1;" + SIX), 10);
        DUE.all(x, """
            restore = 0
            count 0 = 0
            count 1 = 10
            count 2 = 0
            count 3 = 0
            ground 0 0 0 = 0
            one 0 0 = -1
            yards 20 = 10
            ground 1 19 0 = 0
            ground 1 19 1 = 0
            """);
        DUE.is("a field", Due.field(x, "y00012;y11959;l1;" + SIX), 9);
        DUE.all(x, """
            image = 6
            yards 1 = 20
            person 5 0 1 = 60
            person 0 1 9 = 1
            yard 0 0 3 3 = 12
            lane 0 = 1
            restore = 6
            count 0 = 6
            count 1 = 20
            count 2 = 1
            count 3 = 120
            ground 0 0 0 = 1
            ground 0 0 1 = 2
            ground 1 19 0 = 5
            ground 1 19 1 = 9
            one 5 2 = 9
            one 0 1 = 1
            comes 1 1 1 = -6
            restore = 6
            yards 3 = 20
            image = 6
            yards 4 = 3
            restore = 6
            count 1 = 3
            """);
    }

    /** Not the letters, not the ROW, not the REFUSALS, and not what can be TAKEN BACK. */
    private static void allButItself() {
        DUE.all(Due.of("p2011;"), """
            feed 110 = 1
            row 5 = 1
            lane 1 = 0
            lane 9 = -1
            image = 1
            feed 48 = 2
            row 6 = 2
            lane 0 = 1
            lane 9 = -1
            restore = 1
            count 2 = 1
            count 4 = 2
            count 5 = 2
            count 6 = 0
            count 11 = 2
            feed 57 = 3
            feed 59 = 4
            field = 1
            count 1 = 9
            image = 1
            clear = 2
            restore = 1
            count 5 = 0
            count 4 = 0
            """);
    }

    // ---- The ROW and the counts

    private static void rowsOfNoneAndTwelve() {
        HandsForAWheel x = new HandsForAWheel();
        DUE.all(x, """
            clear = 0
            count 5 = 0
            row -1 = -4
            row 100 = -6
            row -2147483648 = -4
            row 2147483647 = -6
            count 5 = 0
            row 0 = 1
            row 99 = 2
            clear = 2
            count 5 = 0
            clear = 0
            """);
        for (int i = 1; i <= 12; i++) {
            DUE.is("row", x.row(99), i);
        }
        DUE.all(x, """
            row 0 = -6
            row 99 = -6
            row 100 = -6
            row -1 = -4
            count 5 = 12
            clear = 12
            row 3 = 1
            """);
    }

    private static void counts() {
        HandsForAWheel x = Due.of("n20;l1;" + SIX);
        for (int i = 0; i < 96; i++) {
            x.feed(59);
        }
        for (int i = 0; i < 12; i++) {
            x.row(i);
        }
        for (int i = 0; i < 9; i++) {
            x.person(0, 0, 60);
        }
        DUE.all(x, """
            count 0 = 6
            count 1 = 20
            count 2 = 1
            count 3 = 170
            count 4 = 96
            count 5 = 12
            count 6 = 8
            count 7 = -9
            count 8 = -9
            count 9 = -9
            count 10 = -9
            count 11 = 0
            count 12 = 0
            count 13 = 0
            count 14 = 0
            count 15 = 0
            count 16 = 0
            count 17 = -9
            count -1 = -9
            count 2147483647 = -9
            count -2147483648 = -9
            lane 2 = -1
            heavy 0 0 0 1 = 1000000001
            rain 6 0 1 = 1000000001
            one 0 3 = -2
            steers 0 2 = 1000000002
            restore = -3
            yards 0 = -4
            heavy 0 1 -1 1 = 1000000004
            steers -1 0 = 1000000004
            rain 0 0 0 = 1000000004
            yards 21 = -6
            feed 59 = -6
            row 1 = -6
            comes 1 1 1 = -6
            steers 6 0 = 1000000006
            rain 0 3 1 = 1000000006
            heavy 0 1 0 10 = 1000000006
            count 11 = 3
            count 12 = 2
            count 13 = 1
            count 14 = 4
            count 15 = 0
            count 16 = 7
            count 0 = 6
            """);
    }
}
