/** Promises 24 to 32, 37, 38, 40 to 45, 47 and 49 to 52: one who walks, and what goes with it. All reckoned by hand. */
public final class AloneTest {
    private static final Due DUE = new Due("AloneTest");

    public static void main(String[] args) {
        steering();
        cups();
        laughing();
        inHerAndLongest();
        pushed();
        judged();
        lots();
        worstAndHandicap();
        carefulAndPractice();
        halfAndTurnedRound();
        lanesAndRain();
        DUE.end();
    }

    private static void steering() {
        DUE.all(new HandsForAWheel(), """
            steers 0 0 = 1
            steers 0 1 = -1
            steers 5 0 = 6
            steers 5 1 = 0
            straight 0 = -9
            straight 1 = 0
            straight 6 = 5
            straight 99 = 5
            yards 1 = 10
            steers 5 0 = 1
            steers 5 1 = 1
            straight 0 = -9
            straight 1 = 5
            yards 3 = 1
            steers 1 0 = 2
            steers 1 1 = 2
            straight 2 = 1
            straight 3 = 5
            """);
    }

    private static void cups() {
        DUE.all(new HandsForAWheel(), """
            cup 60 9 = 15
            cup 0 9 = 0
            cup 6 9 = 6
            cup 7 9 = 6
            cup 60 1 = 59
            bestCup 9 = 59
            bestCup 1 = 59
            yards 1 = 10
            cup 60 9 = 51
            bestCup 9 = 59
            yard 0 0 5 0 = 0
            cup 60 9 = 42
            cup 7 9 = 5
            cup 6 9 = 6
            yard 1 0 0 0 = 0
            lane 1 = 0
            cup 60 9 = 51
            """);
    }

    private static void laughing() {
        DUE.all(new HandsForAWheel(), """
            laughs 1 = 118
            laughs 4 = 47
            laughs 5 = 42
            laughs 9 = 58
            laughs 10 = 55
            laughs 20 = 55
            bestStop = 5
            yards 1 = 10
            laughs 1 = 1
            bestStop = 1
            yards 20 = 1
            laughs 20 = 210
            laughs 19 = 203
            laughs 5 = 96
            bestStop = 5
            """);
    }

    private static void inHerAndLongest() {
        DUE.all(Due.of("p2045;p3045;p1099;p6019;p1021;"), """
            inHer 0 0 3 = 1
            inHer 1 0 3 = 2
            inHer 2 0 3 = 0
            inHer 3 0 1 = 10
            inHer 4 0 3 = 2
            longest 0 0 3 0 = 0
            longest 0 0 3 20 = 0
            longest 0 0 3 21 = 1
            longest 0 0 3 56 = 1
            longest 0 0 3 57 = 2
            longest 0 0 3 344 = 9
            longest 0 0 3 345 = 10
            longest 0 0 3 9999 = 10
            longest 2 0 3 9999 = 0
            longest 4 0 3 60 = 0
            longest 4 0 3 61 = 1
            yard 0 5 5 9 = 0
            longest 0 0 3 9999 = 5
            inHer 3 0 9 = 5
            """);
    }

    private static void pushed() {
        DUE.all(Due.of("p2044;n03;y00150;y00230;"), """
            pushed 0 = 6
            row 1 = 1
            pushed 0 = 8
            whose 3 = 16
            row 2 = 2
            pushed 0 = 16
            whose 4 = 16
            whose 1 = 0
            clear = 2
            row 0 = 1
            pushed 0 = 0
            row 1 = 2
            row 2 = 3
            pushed 0 = 992
            whose 3 = 6
            whose 9 = 510
            count 5 = 3
            row 2 = 4
            pushed 0 = -3
            whose 3 = -3
            count 5 = 4
            clear = 4
            row 3 = 1
            pushed 0 = -3
            whose 9 = -3
            lane 1 = 0
            clear = 1
            pushed 0 = 30
            whose 1 = 1022
            whose 3 = 1016
            """);
    }

    private static void judged() {
        DUE.all(new HandsForAWheel(), """
            judge 0 1 = -9
            row 27 = 1
            row 27 = 2
            judge 0 1 = -9
            count 5 = 0
            row 27 = 1
            row 26 = 2
            row 26 = 3
            judge 0 1 = 1
            row 31 = 1
            row 32 = 2
            judge 3 1 = -6
            judge 2 0 = -4
            count 5 = 2
            judge 2 1 = 1
            clear = 0
            """);
        HandsForAWheel x = new HandsForAWheel();
        for (int i = 1; i <= 12; i++) {
            DUE.is("row", x.row(27), i);
        }
        DUE.all(x, """
            row 27 = -6
            row -1 = -4
            judge 0 1 = 10
            row 0 = 1
            row 99 = 2
            row 100 = -6
            clear = 2
            clear = 0
            row 30 = 1
            judge 0 1 = 0
            yard 0 0 4 9 = 0
            row 39 = 1
            judge 0 1 = -9
            """);
    }

    private static void lots() {
        // The DRAWS from 0: 0, 8, 8, 7.
        DUE.all(Due.of("p6019;n01;y00029;"), """
            lots 0 0 1 1 0 0 = 27
            lots 0 0 1 2 0 0 = 62
            lots 0 0 1 3 0 0 = 97
            lots 0 0 1 3 0 1 = 0
            lots 0 0 1 4 -5 0 = 126
            ground 0 0 1 = 9
            race 0 0 0 1 0 = -1
            person 0 0 8 = 60
            lots 0 0 1 4 0 0 = 3024
            lots 0 0 1 4 0 1 = 3
            yards 2 = 1
            lots 0 0 1 2 0 0 = 1053
            lots 0 0 1 2 0 1 = 1
            """);
        // The figures of the other lane are left alone, and plain yards draw, too.
        DUE.all(Due.of("p6019;n02;y00120;y10129;"), """
            lots 0 0 1 1 0 0 = 62
            lane 1 = 0
            lots 0 0 1 1 0 0 = 62
            ground 0 1 1 = 0
            ground 1 1 1 = 9
            """);
    }

    private static void worstAndHandicap() {
        DUE.all(Due.of("p6019;p2045;p2019;"), """
            worst 0 0 1 = -9
            yard 0 3 1 0 = 0
            worst 0 0 1 = -9
            yard 0 4 5 9 = 0
            yard 0 7 5 9 = 0
            worst 0 0 1 = 4
            yard 0 7 0 0 = 59
            yard 0 4 5 9 = 59
            worst 2 0 1 = 4
            yard 1 7 5 9 = 0
            worst 2 0 1 = 4
            lane 1 = 0
            worst 2 0 1 = 7
            ground 1 7 0 = 5
            lane 0 = 1
            yards 1 = 10
            handicap 1 0 3 20 = -9
            handicap 1 0 3 21 = 11
            yards 2 = 1
            handicap 1 0 3 72 = 11
            handicap 1 0 3 57 = 12
            handicap 1 0 3 56 = 22
            handicap 1 0 3 42 = 22
            handicap 1 0 3 41 = -9
            handicap 1 0 3 0 = -9
            handicap 1 0 3 9999 = 11
            one 1 0 = 20
            """);
    }

    private static void carefulAndPractice() {
        DUE.all(Due.of("p2045;p6019;p1099;"), """
            careful 0 0 = 330
            careful 2 0 = -9
            practice 0 0 3 = 1
            practice 0 0 6 = 2
            practice 1 0 9 = -9
            one 0 0 = 20
            yards 2 = 10
            yard 0 0 1 0 = 0
            careful 1 0 = 4
            """);
        DUE.all(Due.of("p1059;n01;"), """
            practice 0 0 1 = 0
            practice 0 0 2 = 0
            practice 0 0 9 = -9
            """);
        DUE.all(Due.of("p5661;n02;"), """
            practice 0 0 2 = 2
            practice 0 0 1 = -9
            """);
    }

    private static void halfAndTurnedRound() {
        DUE.all(Due.of("p2045;p6019;p1099;"), """
            half 0 0 3 = 5
            half 2 0 3 = -9
            turnedRound 0 0 3 = 345
            turnedRound 2 0 3 = -9
            yards 2 = 10
            half 1 0 1 = 0
            yards 3 = 2
            half 1 0 1 = 1
            """);
        DUE.all(Due.of("p2043;p3063;n02;y00129;"), """
            race 1 0 0 3 0 = 121
            turnedRound 0 0 3 = 106
            """);
    }

    private static void lanesAndRain() {
        DUE.all(Due.of("p2045;p6019;p1145;"), """
            bestLane 0 0 3 = 0
            rain 0 0 3 = 75
            rain 2 0 3 = -999999
            rain 2 0 4 = -999999
            yard 0 4 5 9 = 0
            bestLane 1 0 1 = 1
            bestLane 0 0 3 = 1
            yard 1 4 5 9 = 0
            bestLane 0 0 3 = -9
            yard 0 4 0 0 = 59
            lane 1 = 0
            bestLane 0 0 3 = 0
            rain 0 0 3 = -999999
            rain 1 0 1 = 42
            ground 1 0 0 = 0
            """);
        DUE.all(Due.of("p6019;n02;y00034;y00120;"), "rain 0 0 1 = 0");
    }
}
