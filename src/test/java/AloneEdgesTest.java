import java.math.BigInteger;

/**
 * Promises 24 to 32, 37, 38, 40 to 45, 47 and 49 to 52, sentence by sentence: one YARD and twenty, just so long and 1
 * less, an empty ROW and one of twelve, ARMS, HEAVY and HANDS that can be no more and no less. All reckoned by hand.
 */
public final class AloneEdgesTest {
    private static final Due DUE = new Due("AloneEdgesTest");

    public static void main(String[] args) {
        steering();
        cups();
        laughing();
        inHer();
        longest();
        pushed();
        whose();
        noSuchRow();
        judged();
        judgedTwelve();
        lots();
        draws();
        worst();
        handicap();
        careful();
        practice();
        half();
        turnedRound();
        bestLane();
        rain();
        DUE.end();
    }

    private static void steering() {
        HandsForAWheel x = new HandsForAWheel();
        int[][] at = {{1, 1, 1}, {2, 1, 1}, {20, 1, 1}};
        int[][] later = {{1, 1, 1}, {2, 2, 2}};
        for (int[] row : at) {
            x.yards(row[0]);
            DUE.is("at most with 0 in " + row[0], x.steers(0, 0), row[1]);
            DUE.is("at the end with 0 in " + row[0], x.steers(0, 1), row[2]);
        }
        for (int[] row : later) {
            x.yards(row[0]);
            for (int g = 1; g <= 5; g++) {
                DUE.is("at most with " + g + " in " + row[0], x.steers(g, 0), row[1]);
                DUE.is("at the end with " + g + " in " + row[0], x.steers(g, 1), row[2]);
            }
        }
        DUE.all(x, """
            yards 20 = 2
            steers 1 0 = 18
            steers 1 1 = 17
            steers 5 0 = 60
            steers 5 1 = -60
            straight 0 = -9
            straight 1 = 0
            straight 16 = 0
            straight 17 = 2
            straight 18 = 2
            straight 59 = 4
            straight 60 = 5
            straight 99 = 5
            straight 100 = -6
            straight -1 = -4
            yards 1 = 20
            straight 0 = -9
            straight 1 = 5
            steers -1 0 = 1000000004
            steers 6 0 = 1000000006
            steers 0 -1 = 1000000002
            steers 5 2 = 1000000002
            steers 6 2 = 1000000006
            steers -2147483648 2 = 1000000004
            """);
    }

    private static void cups() {
        DUE.all(new HandsForAWheel(), """
            yards 1 = 10
            cup 0 1 = 0
            cup 0 9 = 0
            cup 1 9 = 1
            cup 6 9 = 6
            cup 7 9 = 6
            cup 59 1 = 59
            cup 60 1 = 59
            cup 59 9 = 51
            cup 60 9 = 51
            bestCup 1 = 59
            bestCup 9 = 59
            yard 0 0 5 9 = 0
            cup 60 1 = 58
            cup 60 9 = 42
            cup 59 9 = 43
            cup 7 9 = 5
            cup 6 9 = 6
            cup 0 9 = 0
            yards 20 = 1
            cup 60 1 = 58
            yard 0 19 5 9 = 0
            lane 1 = 0
            cup 60 1 = 59
            cup 61 1 = -6
            cup -1 1 = -4
            cup 60 0 = -4
            cup 60 10 = -6
            bestCup 0 = -4
            bestCup 10 = -6
            """);
        // On BUMPS all the way each number from 7 on loses two at a time until 6 or fewer are left.
        HandsForAWheel x = new HandsForAWheel();
        x.yards(20);
        for (int yard = 0; yard < 20; yard++) {
            x.yard(0, yard, 5, 0);
        }
        DUE.is("the f", x.bestCup(9), 6);
        DUE.is("what is left", x.cup(6, 9), 6);
    }

    private static void laughing() {
        HandsForAWheel x = new HandsForAWheel();
        x.yards(1);
        for (int k = 1; k <= 20; k++) {
            DUE.is("in one YARD", x.laughs(k), 1);
        }
        DUE.all(x, """
            bestStop = 1
            yards 2 = 1
            laughs 1 = 14
            laughs 2 = 3
            laughs 20 = 3
            bestStop = 2
            yards 3 = 2
            laughs 2 = 16
            laughs 3 = 6
            bestStop = 3
            yards 7 = 3
            laughs 4 = 28
            laughs 6 = 34
            laughs 7 = 28
            bestStop = 4
            yards 12 = 7
            laughs 4 = 54
            laughs 6 = 54
            bestStop = 4
            yards 17 = 12
            bestStop = 6
            yards 20 = 17
            laughs 1 = 248
            laughs 2 = 138
            laughs 19 = 203
            laughs 20 = 210
            bestStop = 5
            laughs 0 = -4
            laughs 21 = -6
            """);
    }

    private static void inHer() {
        DUE.all(Due.of("n20;p6019;p5919;p0319;p0219;p0519;"), """
            inHer 0 0 1 = 20
            inHer 1 0 1 = 19
            inHer 2 0 1 = 1
            inHer 3 0 1 = 0
            inHer 4 0 1 = 1
            inHer 4 0 3 = 1
            inHer 4 0 4 = 0
            yards 1 = 20
            inHer 0 0 1 = 1
            inHer 2 0 1 = 1
            inHer 3 0 1 = 0
            """);
        // A NOSE mends.
        DUE.is("a NOSE mends", Due.of("n20;p1011;").inHer(0, 0, 2), 20);
    }

    private static void longest() {
        DUE.all(Due.of("n03;p6019;p0419;p6011;"), """
            longest 0 0 1 0 = 0
            longest 0 0 1 26 = 0
            longest 0 0 1 27 = 1
            longest 0 0 1 53 = 1
            longest 0 0 1 54 = 2
            longest 0 0 1 80 = 2
            longest 0 0 1 81 = 3
            longest 0 0 1 9999 = 3
            longest 1 0 1 68 = 1
            longest 1 0 1 69 = 2
            longest 2 0 2 63 = 0
            longest 2 0 2 64 = 1
            yard 0 1 2 9 = 0
            longest 1 0 1 9999 = 1
            yard 0 0 2 9 = 0
            longest 1 0 1 9999 = 0
            yards 20 = 3
            longest 0 1 1 9999 = 20
            longest 0 0 1 -1 = -4
            longest 0 0 1 10000 = -6
            """);
    }

    // ---- The ROW

    private static void pushed() {
        DUE.all(Due.of("n03;p2011;p2019;p2015;"), """
            pushed 0 = 2
            pushed 1 = 1022
            pushed 2 = 62
            row 2 = 1
            pushed 0 = 0
            clear = 1
            row 0 = 1
            row 1 = 2
            pushed 0 = 0
            row 2 = 3
            pushed 0 = 1020
            pushed 1 = 0
            pushed 2 = 960
            pushed 3 = -1
            pushed -1 = -1
            yard 0 1 1 0 = 0
            pushed 0 = 1008
            pushed 2 = 768
            clear = 3
            row 0 = 1
            row 2 = 2
            pushed 0 = 12
            pushed 2 = 192
            pushed 1 = 0
            count 5 = 2
            """);
        HandsForAWheel x = Due.of("n12;p2011;");
        for (int i = 0; i < 12; i++) {
            x.row(i);
        }
        DUE.all(x, """
            pushed 0 = 1020
            whose 9 = 510
            yards 13 = 12
            pushed 0 = 0
            whose 9 = 0
            yards 11 = 13
            pushed 0 = -3
            whose 9 = -3
            count 5 = 12
            yards 20 = 11
            pushed 0 = 0
            """);
    }

    private static void whose() {
        DUE.all(new HandsForAWheel(), """
            yards 1 = 10
            whose 1 = 1022
            whose 9 = 512
            row 0 = 1
            whose 1 = 0
            whose 2 = 2
            whose 9 = 510
            whose 0 = -4
            whose 10 = -6
            yard 0 0 5 0 = 0
            whose 1 = 0
            whose 2 = 14
            whose 9 = 1022
            clear = 1
            whose 8 = 0
            whose 7 = 512
            yard 0 0 1 0 = 50
            whose 3 = 1022
            whose 9 = 896
            """);
    }

    private static void noSuchRow() {
        DUE.all(Due.of("n03;p2011;"), """
            row 3 = 1
            pushed 0 = -3
            whose 5 = -3
            pushed 1 = -1
            whose 0 = -4
            whose 10 = -6
            yards 4 = 3
            pushed 0 = 0
            row 3 = 2
            pushed 0 = -3
            whose 5 = -3
            clear = 2
            row 2 = 1
            row 1 = 2
            pushed 0 = -3
            whose 5 = -3
            row 3 = 3
            pushed 0 = -3
            clear = 3
            row 0 = 1
            row 99 = 2
            pushed 0 = -3
            whose 5 = -3
            clear = 2
            row 0 = 1
            row 0 = 2
            pushed 0 = -3
            count 5 = 2
            """);
    }

    private static void judged() {
        DUE.all(Due.of("n02;y00149;y10020;"), """
            judge 0 1 = -9
            row 27 = 1
            judge 0 1 = -9
            count 5 = 0
            row 27 = 1
            row 39 = 2
            judge 0 1 = -9
            row 27 = 1
            row 39 = 2
            row 27 = 3
            judge 0 1 = 2
            count 5 = 0
            row 26 = 1
            judge 0 1 = 0
            row 28 = 1
            row 39 = 2
            judge 0 1 = 0
            row 27 = 1
            row 99 = 2
            judge 0 1 = 1
            row 99 = 1
            judge 0 1 = 0
            row 7 = 1
            row 19 = 2
            judge -1 9 = -4
            judge 2 0 = -4
            judge 3 9 = -6
            judge 2 10 = -6
            judge 3 0 = -4
            count 5 = 2
            judge 2 9 = -9
            count 5 = 0
            row 3 = 1
            row 15 = 2
            judge 0 9 = -9
            lane 1 = 0
            row 27 = 1
            row 39 = 2
            judge 0 1 = 1
            row 27 = 1
            row 27 = 2
            judge 0 1 = -9
            """);
    }

    private static void judgedTwelve() {
        for (int yards : new int[] {1, 11, 12, 20}) {
            HandsForAWheel x = new HandsForAWheel();
            x.yards(yards);
            for (int i = 0; i < 12; i++) {
                x.row(27);
            }
            DUE.is("twelve told of " + yards, x.judge(0, 1), yards < 12 ? yards : -9);
            DUE.is("the ROW has none then", x.count(5), 0);
            DUE.is("and room", x.row(1), 1);
        }
        HandsForAWheel x = new HandsForAWheel();
        x.yards(12);
        for (int i = 0; i < 12; i++) {
            x.row(i == 11 ? 26 : 27);
        }
        DUE.is("the twelfth is not so", x.judge(0, 1), 11);
        DUE.is("nor is any at another PACE", x.row(27), 1);
        DUE.is("nor is any at another PACE", x.judge(0, 2), 0);
    }

    // ---- LOTS

    /** THISTLES take 30 and the FIGURE, so that one race of one YARD tells the DRAW. */
    private static void lots() {
        DUE.all(Due.of("n01;p6019;p0419;y00049;"), """
            lots 0 0 1 1 0 0 = 30
            lots 0 0 1 1 2147483647 0 = 39
            lots 0 0 1 1 -2147483648 0 = 30
            lots 0 0 1 1 -1 0 = 39
            lots 0 0 1 1 1 0 = 38
            lots 0 0 1 1 0 1 = 0
            lots 1 0 1 1 0 0 = 999
            lots 1 0 1 1 0 1 = 1
            lots 1 0 1 20 0 0 = 19980
            lots 1 0 1 20 0 1 = 20
            lots 0 0 1 0 0 0 = -4
            lots 0 0 1 21 0 0 = -6
            lots 0 0 1 -2147483648 0 0 = -4
            lots 0 0 1 2147483647 0 0 = -6
            lots 0 0 1 1 0 2 = -2
            lots 0 0 1 1 0 -1 = -2
            ground 0 0 1 = 9
            lane 1 = 0
            lots 0 0 1 20 5 0 = 540
            ground 1 0 1 = 0
            """);
    }

    /** The DRAWS wrap around: reckoned here without an int. */
    private static void draws() {
        HandsForAWheel x = Due.of("n20;p6019;");
        for (int yard = 0; yard < 20; yard++) {
            x.yard(0, yard, 4, 9);
        }
        for (int z : new int[] {0, 1, -1, 7, 12345, -987654321, Integer.MAX_VALUE, Integer.MIN_VALUE, 1 << 30, 1 << 16}) {
            BigInteger seed = BigInteger.valueOf(z);
            BigInteger wrap = BigInteger.ONE.shiftLeft(32);
            int figures = 0;
            for (int i = 0; i < 20; i++) {
                seed = seed.multiply(BigInteger.valueOf(1103515245)).add(BigInteger.valueOf(12345)).mod(wrap);
                figures += seed.mod(wrap.shiftRight(1)).intValueExact() / 65536 % 10;
            }
            // She TIRES by 6: ten YARDS with 60 ARMS, then 6 RESTS for the ten others.
            DUE.is("lots with " + z, x.lots(0, 0, 1, 1, z, 0), 20 * 30 + figures + 6 * 15);
        }
    }

    // ---- A race that is otherwise than told

    private static void worst() {
        DUE.all(Due.of("n01;p6019;p0319;"), """
            worst 0 0 1 = -9
            yard 0 0 1 9 = 0
            worst 0 0 1 = -9
            yard 0 0 2 0 = 19
            worst 0 0 1 = -9
            yard 0 0 2 1 = 20
            worst 0 0 1 = 0
            yard 0 0 3 0 = 21
            worst 0 0 1 = 0
            race 0 1 0 1 0 = -9
            worst 1 0 1 = 0
            worst 1 0 2 = -9
            yards 20 = 1
            worst 1 0 1 = 0
            yard 0 19 3 9 = 0
            worst 1 0 1 = -9
            worst 0 0 1 = 0
            yard 0 19 2 4 = 39
            worst 0 0 1 = 19
            yard 0 0 0 9 = 30
            worst 0 0 1 = 19
            lane 1 = 0
            worst 0 0 1 = -9
            """);
    }

    private static void handicap() {
        DUE.all(Due.of("n01;p6019;p0199;"), """
            handicap 0 0 1 26 = -9
            handicap 0 0 1 27 = 3
            handicap 0 0 1 9999 = 3
            handicap 0 0 1 0 = -9
            handicap 0 2 1 31 = 2
            handicap 0 2 1 30 = -9
            yard 0 0 5 9 = 0
            handicap 1 0 6 9999 = 60
            handicap 1 0 6 26 = 60
            handicap 1 0 6 25 = -9
            handicap 1 0 7 9999 = -9
            handicap 1 0 5 9999 = 59
            handicap 1 0 1 -1 = -4
            handicap 1 0 1 10000 = -6
            one 0 0 = 60
            one 1 0 = 1
            yards 20 = 1
            lane 1 = 0
            handicap 0 0 1 540 = 60
            handicap 0 0 1 539 = -9
            handicap 0 0 1 9999 = 3
            """);
    }

    private static void careful() {
        DUE.all(Due.of("n01;p6019;p6018;p6011;p1019;p1018;p6012;"), """
            careful 0 0 = 3
            careful 1 0 = 6
            careful 2 0 = 27
            careful 2 2 = 31
            careful 3 0 = -9
            careful 4 0 = 6
            yard 0 0 1 0 = 0
            careful 0 0 = 1
            careful 1 0 = 1
            careful 2 0 = 19
            yard 0 0 5 0 = 10
            careful 0 0 = 14
            careful 2 0 = 32
            careful 5 0 = 32
            yard 0 0 2 0 = 50
            careful 5 0 = 27
            careful 6 0 = -1
            yards 20 = 1
            careful 0 0 = 303
            """);
    }

    private static void practice() {
        DUE.all(Due.of("n01;p5599;p5499;p5799;p5699;y00059;"), """
            practice 0 0 6 = 0
            practice 1 0 6 = -9
            practice 2 0 7 = 1
            practice 3 0 7 = -9
            """);
        DUE.all(Due.of("n20;p6019;p6018;p0429;p5919;"), """
            practice 0 0 9 = -9
            practice 1 0 9 = 2
            yards 1 = 20
            practice 2 0 1 = 0
            practice 3 0 1 = -9
            yard 0 0 2 0 = 0
            practice 0 0 9 = -9
            practice 1 0 8 = 2
            practice 1 0 9 = -9
            practice 1 0 7 = -9
            one 1 2 = 8
            one 2 0 = 4
            one 2 1 = 2
            yards 20 = 1
            yard 0 0 0 0 = 20
            practice 3 0 1 = 0
            race 0 3 0 1 2 = 1
            """);
        // HEAVY 2 can be 1 less; with HANDS 8 she falls on her nose with PACE 9 still.
        DUE.all(Due.of("n20;p6029;p6017;"), """
            race 1 0 0 1 2 = 4
            practice 0 0 1 = 1
            yards 1 = 20
            practice 0 0 1 = -9
            practice 1 0 9 = -9
            practice 1 0 8 = 2
            """);
        // 307 TENTHS now, 277 with HEAVY 8, 282 with HANDS 6.
        DUE.all(Due.of("n05;p6095;p6011;y00257;y00325;"), """
            race 1 0 0 5 0 = 307
            practice 0 0 5 = 1
            person 0 2 6 = 5
            race 1 0 0 5 0 = 282
            person 0 2 5 = 6
            person 0 1 8 = 9
            race 1 0 0 5 0 = 277
            """);
    }

    private static void half() {
        DUE.all(Due.of("n01;p6019;p0219;"), """
            half 0 0 1 = 0
            half 1 0 1 = -9
            yards 2 = 1
            half 0 0 1 = 0
            yards 3 = 2
            half 0 0 1 = 1
            yards 20 = 3
            half 0 0 1 = 9
            yards 19 = 20
            half 0 0 1 = 9
            yards 2 = 19
            yard 0 1 2 1 = 0
            half 0 0 1 = 1
            yard 0 0 2 1 = 0
            half 0 0 1 = 0
            yard 0 0 2 2 = 21
            half 0 0 1 = 0
            """);
    }

    private static void turnedRound() {
        DUE.all(Due.of("n01;p6019;p0219;p1019;"), """
            turnedRound 0 0 1 = 27
            turnedRound 1 0 1 = -9
            yards 20 = 1
            turnedRound 0 0 1 = 540
            yard 0 19 2 9 = 0
            turnedRound 2 0 1 = -9
            yards 19 = 20
            turnedRound 2 0 1 = 603
            yards 20 = 19
            lane 1 = 0
            turnedRound 2 0 1 = 630
            """);
    }

    private static void bestLane() {
        DUE.all(Due.of("n01;p6019;p0319;"), """
            bestLane 0 0 1 = 0
            lane 1 = 0
            bestLane 0 0 1 = 0
            yard 0 0 2 1 = 0
            bestLane 0 0 1 = 1
            bestLane 1 0 1 = 1
            yard 1 0 2 2 = 0
            bestLane 0 0 1 = 0
            bestLane 1 0 1 = -9
            yard 1 0 2 1 = 22
            bestLane 0 0 1 = 0
            yard 0 0 0 1 = 21
            bestLane 1 0 1 = 0
            lane 0 = 1
            bestLane 1 0 1 = 0
            """);
    }

    private static void rain() {
        DUE.all(Due.of("n01;p6019;p0519;p0419;p0219;p6012;"), """
            rain 0 0 1 = 3
            rain 1 0 1 = 3
            rain 2 0 1 = -999999
            rain 3 0 1 = -999999
            rain 4 0 2 = 43
            rain 4 0 1 = 3
            ground 0 0 0 = 0
            yard 0 0 3 0 = 0
            rain 0 0 1 = 0
            rain 2 0 1 = -999999
            yards 20 = 1
            rain 0 2 1 = 87
            lane 1 = 0
            rain 0 2 1 = 90
            rain 5 0 1 = 1000000001
            rain 0 -1 1 = 1000000004
            rain 0 0 10 = 1000000006
            """);
    }
}
