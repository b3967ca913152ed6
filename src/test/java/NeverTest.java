/**
 * What is NEVER over, in every call that can meet it: -9 or -999999, and no REFUSAL. 0 is NEVER over with any PACE or
 * HOLD, 1 always is, 2 is not with PACE 2 by the ankle only.
 */
public final class NeverTest {
    private static final Due DUE = new Due("NeverTest");

    public static void main(String[] args) {
        oneWhoIsNeverOver();
        byThePace();
        onTheLastYardOnly();
        inOneLaneOnly();
        allOfThem();
        isNoRefusal();
        DUE.end();
    }

    private static HandsForAWheel people() {
        return Due.of("n02;p0119;p6019;p0319;p6019;");
    }

    private static void oneWhoIsNeverOver() {
        DUE.all(people(), """
            race 1 0 0 1 0 = -9
            race 1 0 0 1 1 = -9
            race 1 0 0 1 2 = -9
            race 1 0 0 1 3 = -9
            raceOver 1 0 0 1 1 = -9
            raceOver 0 1 0 1 1 = -9
            bestPace 1 0 0 = -9
            bestPace 1 0 2 = -9
            bestHold 1 0 1 = -9
            bestChange 1 0 0 1 = -9
            bestChange 0 1 0 1 = -9
            whoFirst 1 0 0 1 = 1
            whoFirst 0 1 0 1 = 0
            soonest 0 0 -1 0 = -9
            soonest 0 0 -1 1 = -9
            soonest 0 0 0 0 = -9
            soonest 0 0 0 1 = -9
            soonest 0 2 1 0 = -9
            soonest 0 2 1 1 = -9
            lanes 0 0 1 -1 = -9
            lanes 0 0 1 0 = -9
            lanes 0 2 1 1 = -9
            heavy 0 1 0 1 = -999999
            heavy 1 0 0 1 = -999999
            pairs 0 1 0 = 108
            game 1 0 2 3 0 1 = -9
            game 1 2 3 0 0 1 = -9
            game 0 1 2 3 0 1 = 1
            inHer 0 0 1 = 0
            team 1 0 1 = -9
            team 9 0 1 = -9
            bestTurn 0 1 = -9
            catches 1 0 2 3 1 0 = -9
            catches 1 2 3 0 1 999 = 0
            even 0 0 0 = -9
            even 0 0 1 = -9
            worst 0 0 1 = -9
            handicap 0 0 1 9999 = 3
            ladder 0 1 0 = 1
            ladder 0 1 8 = 32
            ladder 0 1 9 = -9
            ladder 0 1 11 = -9
            careful 0 0 = -9
            careful 0 2 = -9
            practice 0 0 1 = 0
            half 0 0 1 = -9
            turnedRound 0 0 1 = -9
            bestLane 0 0 1 = -9
            rain 0 0 1 = -999999
            relay 1 0 0 1 = -9
            longest 0 0 1 9999 = 0
            fair 0 1 = 13
            lots 0 0 1 20 0 0 = 19980
            lots 0 0 1 20 0 1 = 20
            """);
    }

    private static void byThePace() {
        DUE.all(people(), """
            race 1 2 0 1 0 = 69
            race 1 2 0 2 0 = -9
            race 1 2 1 2 0 = 67
            bestPace 1 2 0 = 1
            bestHold 1 2 2 = 1
            bestHold 1 2 3 = -9
            soonest 2 0 -1 0 = 69
            soonest 2 0 1 0 = 1
            soonest 2 0 1 1 = 1
            even 2 0 0 = 1
            lanes 2 0 2 -1 = -9
            heavy 1 2 0 2 = -999999
            heavy 1 2 0 1 = -15
            inHer 2 0 2 = 0
            inHer 2 0 1 = 1
            careful 2 0 = -9
            half 2 0 2 = -9
            half 2 0 1 = 1
            handicap 2 0 9 9999 = 11
            practice 2 0 2 = 0
            turnedRound 2 0 2 = -9
            bestLane 2 0 2 = -9
            rain 2 0 1 = -999999
            rain 2 2 1 = -999999
            rain 2 2 2 = -999999
            lots 2 0 2 1 0 1 = 1
            lots 2 0 1 1 0 1 = 0
            lots 2 0 2 1 0 0 = 999
            lots 2 0 1 1 0 0 = 69
            """);
    }

    /** BUMPS on the last YARD are too much for 2. */
    private static void onTheLastYardOnly() {
        HandsForAWheel x = people();
        x.yard(0, 1, 5, 0);
        DUE.all(x, """
            race 1 2 0 1 0 = -9
            race 1 2 0 1 2 = -9
            raceOver 1 2 0 1 1 = 99
            raceOver 2 1 0 1 1 = -9
            bestChange 1 2 0 1 = 1
            bestChange 2 1 0 1 = -9
            whoFirst 1 2 0 1 = 1
            soonest 2 0 -1 0 = -9
            soonest 2 0 0 0 = -9
            lanes 2 0 1 -1 = 75
            lanes 2 0 1 0 = 0
            lanes 2 0 1 1 = 1
            heavy 2 1 0 1 = -999999
            pairs 0 1 0 = 118
            inHer 2 0 1 = 1
            worst 2 0 1 = 1
            handicap 2 0 1 9999 = 5
            half 2 0 1 = -9
            turnedRound 2 0 1 = -9
            bestLane 2 0 1 = 1
            rain 2 0 1 = -999999
            longest 2 0 1 9999 = 1
            game 0 1 3 2 0 1 = -9
            catches 0 1 3 2 1 999 = 1
            catches 3 2 0 1 1 0 = 0
            catches 3 2 0 1 1 1 = -9
            lots 2 0 1 3 0 0 = 2997
            """);
        DUE.is("ALL, as 2 need not walk", Due.of("n01;p0119;p6019;p0119;p6019;").pairs(0, 1, 0), 54);
    }

    private static void inOneLaneOnly() {
        HandsForAWheel x = people();
        x.yard(1, 0, 5, 0);
        DUE.all(x, """
            bestLane 2 0 1 = 0
            lanes 2 0 1 -1 = 69
            lane 1 = 0
            race 1 2 0 1 0 = -9
            bestLane 2 0 1 = 0
            lanes 2 0 1 -1 = 75
            lanes 2 0 1 0 = 0
            lanes 2 0 1 1 = 0
            game 0 1 3 2 0 1 = -9
            game 2 1 0 3 0 1 = 1
            yard 0 0 5 0 = 0
            bestLane 2 0 1 = -9
            lanes 2 0 1 -1 = -9
            lanes 2 0 1 1 = -9
            worst 2 0 1 = 0
            yard 1 1 5 0 = 0
            worst 2 0 1 = -9
            rain 2 0 1 = -999999
            """);
    }

    private static void allOfThem() {
        DUE.all(Due.of("n20;p0119;p0119;p0119;p0119;"), """
            whoFirst 0 1 0 1 = 0
            heavy 0 1 0 1 = -999999
            bestChange 0 1 0 1 = -9
            relay 0 1 0 1 = -9
            pairs 0 1 0 = -9
            pairs 0 1 1 = -9
            pairs 0 1 2 = -9
            game 0 1 2 3 0 1 = -9
            catches 0 1 2 3 1 0 = -9
            ladder 0 1 0 = -9
            fair 0 1 = -9
            bestTurn 0 1 = -9
            practice 0 0 1 = 0
            practice 0 0 9 = -9
            handicap 0 0 1 9999 = 3
            handicap 0 0 1 539 = -9
            """);
    }

    private static void isNoRefusal() {
        HandsForAWheel x = people();
        String[] calls = {"race 1 0 0 1 0", "raceOver 1 0 0 1 1", "bestPace 1 0 0", "bestHold 1 0 1", "bestChange 1 0 0 1",
            "soonest 0 0 -1 0", "soonest 0 0 1 1", "lanes 0 0 1 0", "heavy 0 1 0 1", "game 1 0 2 3 0 1", "team 1 0 1",
            "bestTurn 0 1", "catches 1 0 2 3 1 0", "even 0 0 0", "even 0 0 1", "worst 0 0 1", "handicap 0 0 1 0",
            "ladder 0 1 11", "careful 0 0", "half 0 0 1", "turnedRound 0 0 1", "bestLane 0 0 1", "rain 0 0 1",
            "relay 1 0 0 1", "straight 0", "judge 0 1", "count 99"};
        for (String call : calls) {
            int answer = Due.call(x, call);
            DUE.is(call + " is NEVER over, or none", answer == -9 || answer == -999999 ? 1 : 0, 1);
        }
        for (int i = 11; i <= 16; i++) {
            DUE.is("no REFUSAL", x.count(i), 0);
        }
    }
}
