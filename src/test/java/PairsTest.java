/** Promises 21 to 23, 33 to 35, 39 and 48: several people. All reckoned by hand. */
public final class PairsTest {
    private static final Due DUE = new Due("PairsTest");

    public static void main(String[] args) {
        heavyBehind();
        pairs();
        games();
        teams();
        catches();
        ladders();
        DUE.end();
    }

    private static void heavyBehind() {
        DUE.all(Due.of("p2045;p3063;p3045;p1099;"), """
            heavy 0 1 0 3 = 45
            heavy 1 0 0 3 = 45
            heavy 0 2 0 3 = 15
            heavy 2 0 0 3 = -15
            heavy 0 3 0 3 = -999999
            heavy 3 0 0 3 = -999999
            """);
    }

    private static void pairs() {
        HandsForAWheel x = Due.of("p2045;");
        DUE.all(x, """
            pairs 0 3 0 = -3
            comes 30 6 3 = 1
            pairs 0 3 0 = 390
            pairs 0 3 1 = 1
            pairs 0 3 2 = 1
            comes 10 2 1 = 2
            pairs 0 3 0 = -3
            pairs 0 3 2 = -3
            comes 30 4 5 = 3
            pairs 0 3 0 = 720
            pairs 0 3 1 = 13
            pairs 0 3 2 = 3
            comes 10 9 9 = 4
            pairs 0 3 1 = -3
            comes 10 9 9 = 5
            pairs 0 3 0 = -9
            pairs 0 3 1 = -9
            pairs 0 3 2 = 3
            pairs 0 9 2 = 3
            person 0 0 1 = 20
            person 1 0 1 = 30
            person 2 0 1 = 10
            person 3 0 1 = 30
            pairs 0 3 2 = -9
            """);
        DUE.all(Due.of("p2045;p2045;p2045;p2045;p2045;p2045;"), """
            pairs 0 3 0 = 1035
            pairs 0 3 1 = 135
            pairs 0 3 2 = 1
            """);
        DUE.all(Due.of("p2045;p1021;p2045;p1021;p2045;p2045;"), """
            pairs 0 3 0 = 1035
            pairs 0 3 1 = 245
            """);
    }

    private static void games() {
        DUE.all(Due.of("p6019;p6019;p6019;p6019;n05;"), """
            game 0 1 2 3 0 1 = 1
            yard 1 0 5 0 = 0
            yard 1 1 5 0 = 0
            yard 1 2 5 0 = 0
            yard 1 3 5 0 = 0
            game 0 1 2 3 0 1 = 1
            yard 1 4 5 0 = 0
            game 0 1 2 3 0 1 = 0
            lane 1 = 0
            game 0 1 2 3 0 1 = 0
            yard 0 0 5 9 = 0
            yard 0 1 5 9 = 0
            yard 0 2 5 9 = 0
            yard 0 3 5 9 = 0
            game 0 1 2 3 0 1 = 11
            person 3 0 1 = 60
            game 0 1 2 3 0 1 = -9
            game 0 3 2 1 0 1 = -9
            game 1 0 3 2 0 1 = 11
            """);
        // The first is stopped by its nose in lane 0, the other one not: the first goes to lane 1.
        DUE.is("the first in lane 1", Due.of("p6011;p6019;p6011;p6019;n05;y10010;y10110;y00040;").game(1, 0, 2, 3, 0, 2), 10);
    }

    private static void teams() {
        DUE.all(Due.of("p2045;p3063;"), """
            team 1 0 3 = -3
            bestTurn 0 3 = -3
            comes 10 2 1 = 2
            team 1 0 3 = 690
            team 4 0 3 = 460
            team 5 0 3 = 385
            team 8 0 3 = 355
            team 9 0 3 = 370
            bestTurn 0 3 = 8
            person 2 1 9 = 2
            team 1 0 3 = -9
            team 4 0 3 = -9
            team 5 0 3 = 385
            person 0 1 9 = 4
            person 0 0 1 = 20
            team 9 0 3 = -9
            bestTurn 0 3 = -9
            """);
        DUE.all(Due.of("p2045;p3063;p1021;n01;"), """
            team 1 0 3 = 21
            bestTurn 0 3 = 1
            """);
    }

    private static void catches() {
        DUE.all(Due.of("p2045;p3063;p1021;p1099;"), """
            catches 3 0 1 2 3 0 = 0
            catches 3 0 1 2 3 40 = 0
            catches 3 0 1 2 3 41 = 1
            catches 3 0 1 2 3 300 = 8
            catches 3 0 1 2 3 999 = -9
            catches 2 0 1 3 3 999 = 0
            catches 2 3 1 0 3 0 = -9
            """);
    }

    private static void ladders() {
        DUE.all(new HandsForAWheel(), """
            ladder 0 3 0 = -9
            fair 0 3 = -9
            comes 20 4 5 = 0
            ladder 0 3 0 = -9
            fair 0 3 = -9
            comes 10 9 9 = 1
            ladder 0 3 0 = 10
            ladder 0 3 1 = -9
            fair 0 3 = -9
            """);
        DUE.all(Due.of("p2045;p3063;p1021;p3045;"), """
            ladder 0 3 0 = 3
            ladder 0 3 1 = 13
            ladder 0 3 2 = 23
            ladder 0 3 3 = 10
            ladder 0 3 5 = 30
            ladder 0 3 6 = 1
            ladder 0 3 11 = 32
            ladder 0 3 12 = -9
            ladder 0 3 2147483647 = -9
            fair 0 3 = 3
            comes 20 4 5 = 4
            fair 0 3 = 4
            comes 10 9 9 = 5
            fair 0 3 = 4
            """);
    }
}
