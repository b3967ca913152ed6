/**
 * Promises 21 to 23, 33 to 35, 39 and 48, sentence by sentence: nobody, one, two, three and six PEOPLE, alike and as
 * soon, just caught and 1 too late, one who is NEVER over among others. All reckoned by hand.
 *
 * <p>On one plain YARD with PACE 2 one with HANDS 1 takes 64 TENTHS, all others take 24; with ARMS 3 she is NEVER over.
 */
public final class ManyEdgesTest {
    private static final Due DUE = new Due("ManyEdgesTest");

    public static void main(String[] args) {
        heavyBehind();
        howManyPairs();
        pairings();
        pairsWithNever();
        games();
        gamesAsSoon();
        gamesWithNever();
        howManyForTeams();
        turns();
        teamsWithNever();
        catches();
        catchesWithNever();
        howManyForLadders();
        laddersWithNever();
        fair();
        DUE.end();
    }

    private static void heavyBehind() {
        DUE.all(Due.of("n01;p6019;p6011;p6021;p6029;p0319;"), """
            heavy 0 1 0 2 = -40
            heavy 1 0 0 2 = 40
            heavy 0 2 0 2 = 40
            heavy 2 0 0 2 = 40
            heavy 1 3 0 2 = -40
            heavy 3 1 0 2 = -40
            heavy 0 3 0 2 = 0
            heavy 3 0 0 2 = 0
            heavy 0 4 0 2 = -999999
            heavy 4 0 0 2 = -999999
            heavy 4 1 0 2 = -999999
            heavy 4 0 0 1 = 0
            heavy 0 0 0 1 = 1000000001
            heavy 5 0 0 1 = 1000000001
            heavy 0 5 3 10 = 1000000001
            heavy 0 1 3 0 = 1000000004
            heavy 0 1 3 10 = 1000000006
            """);
    }

    // ---- Pairs

    private static void howManyPairs() {
        HandsForAWheel x = new HandsForAWheel();
        x.yards(1);
        int[] all = {-3, -3, 24, -3, 48, -3, 72};
        int[] pairing = {-3, -3, 1, -3, 13, -3, 135};
        int[] first = {-3, -3, 1, -3, 1, -3, 1};
        for (int people = 0; people <= 6; people++) {
            DUE.is("ALL of " + people, x.pairs(0, 2, 0), all[people]);
            DUE.is("the pairing of " + people, x.pairs(0, 2, 1), pairing[people]);
            DUE.is("FIRST of " + people, x.pairs(0, 2, 2), first[people]);
            DUE.is("another what with " + people, x.pairs(0, 2, 3), -2);
            DUE.is("another what with " + people, x.pairs(0, 2, -1), -2);
            DUE.is("no PACE with " + people, x.pairs(3, 0, 3), -4);
            DUE.is("no HOLD with " + people, x.pairs(3, 9, 3), -6);
            x.comes(60, 1, 9);
        }
    }

    /** Who walks with 64 TENTHS had better hold. 0 never walks, the last always. */
    private static void pairings() {
        // 1 had better hold: 2 and 3 walk either way.
        DUE.all(Due.of("n01;p6019;p6011;p6019;p6019;"), """
            pairs 0 2 0 = 48
            pairs 0 2 1 = 23
            pairs 0 2 2 = 2
            """);
        DUE.all(Due.of("n01;p6019;p6019;p6011;p6019;"), """
            pairs 0 2 0 = 48
            pairs 0 2 1 = 13
            pairs 0 2 2 = 1
            """);
        DUE.all(Due.of("n01;p6011;p6019;p6019;p6011;"), """
            pairs 0 2 0 = 88
            pairs 0 2 1 = 13
            pairs 0 2 2 = 1
            """);
        String[] hands = {"911999", "919199", "919919", "991199", "991919", "999119", "911919", "111111"};
        int[] due = {345, 245, 235, 145, 135, 135, 135, 135};
        int[] all = {72, 72, 72, 72, 72, 112, 112, 192};
        for (int i = 0; i < hands.length; i++) {
            StringBuilder text = new StringBuilder("n01;");
            for (char c : hands[i].toCharArray()) {
                text.append("p601").append(c).append(';');
            }
            HandsForAWheel x = Due.of(text.toString());
            DUE.is("ALL of HANDS " + hands[i], x.pairs(0, 2, 0), all[i]);
            DUE.is("the pairing of HANDS " + hands[i], x.pairs(0, 2, 1), due[i]);
        }
        // 1 and 2 had better hold, and so would 3 or 4, but the better of them walks.
        DUE.all(Due.of("n01;p6019;p6011;p6011;p6019;p6019;p6011;"), """
            pairs 0 2 0 = 112
            pairs 0 2 1 = 345
            pairs 0 2 2 = 3
            """);
    }

    private static void pairsWithNever() {
        DUE.all(Due.of("n01;p6019;p0319;p6019;p6011;"), """
            pairs 0 2 0 = 88
            pairs 0 2 1 = 23
            pairs 0 2 2 = 2
            person 3 0 3 = 60
            pairs 0 2 0 = -9
            pairs 0 2 1 = -9
            pairs 0 2 2 = 2
            person 2 0 3 = 60
            pairs 0 2 2 = -9
            pairs 0 1 0 = 54
            """);
        DUE.all(Due.of("n01;p6019;p0319;"), """
            pairs 0 2 0 = -9
            pairs 0 2 1 = -9
            pairs 0 2 2 = -9
            """);
        DUE.is("0 need not walk", Due.of("n01;p0119;p6019;").pairs(0, 2, 0), 24);
    }

    // ---- Games

    /** In the same LANE 25 more: LANE 1, then LANE 0 is 24, 25 and 26 TENTHS longer. */
    private static void games() {
        DUE.all(Due.of("n04;p6019;p6019;p6019;p6019;p6019;p6019;"), """
            game 0 1 2 3 0 1 = 1
            yard 1 0 2 9 = 0
            yard 1 1 2 9 = 0
            yard 1 2 2 6 = 0
            game 0 1 2 3 0 1 = 1
            yard 1 2 2 7 = 26
            game 0 1 2 3 0 1 = 0
            yard 1 2 2 8 = 27
            game 0 1 2 3 0 1 = 0
            lane 1 = 0
            game 5 4 3 2 0 1 = 0
            yard 1 0 0 0 = 29
            yard 1 1 0 0 = 29
            yard 1 2 0 0 = 28
            yard 0 0 2 9 = 0
            yard 0 1 2 9 = 0
            yard 0 2 2 6 = 0
            game 0 1 2 3 0 1 = 1
            yard 0 2 2 7 = 26
            game 0 1 2 3 0 1 = 1
            yard 0 2 2 8 = 27
            game 0 1 2 3 0 1 = 11
            game 0 1 2 0 0 1 = -1
            game 0 1 1 2 0 1 = -1
            """);
    }

    /** The other one has a REST more in LANE 0 and a NOSE more in LANE 1: 25 TENTHS, and is as soon by another choice. */
    private static void gamesAsSoon() {
        DUE.all(Due.of("n03;p6019;p6019;p6019;p0812;y10020;"), """
            race 0 3 0 2 0 = 87
            race 0 1 0 2 0 = 72
            lane 1 = 0
            race 0 3 0 2 0 = 112
            race 0 1 0 2 0 = 72
            game 0 1 2 3 0 2 = 1
            game 2 3 0 1 0 2 = 1
            """);
    }

    /** Each of the two, in each of the LANES. */
    private static void gamesWithNever() {
        DUE.all(Due.of("n01;p6019;p6019;p6019;p6019;p0319;"), """
            game 0 1 2 3 0 1 = 1
            game 0 4 2 3 0 1 = 1
            game 0 1 2 4 0 1 = 1
            game 4 1 0 2 0 1 = 1
            game 0 4 2 3 0 2 = -9
            game 0 1 2 4 0 2 = -9
            game 4 1 0 2 0 2 = 1
            game 0 1 4 2 0 2 = 1
            yard 0 0 3 0 = 0
            game 0 4 2 3 0 1 = -9
            game 0 1 2 4 0 1 = -9
            game 0 1 2 3 0 1 = 1
            yard 0 0 0 0 = 30
            yard 1 0 3 0 = 0
            game 0 4 2 3 0 1 = -9
            game 0 1 2 4 0 1 = -9
            game 0 1 2 3 0 1 = 1
            """);
    }

    // ---- Teams

    private static void howManyForTeams() {
        HandsForAWheel x = new HandsForAWheel();
        x.yards(9);
        for (int people = 0; people <= 6; people++) {
            boolean few = people < 3;
            DUE.is("team of " + people, x.team(9, 0, 1), few ? -3 : 243);
            DUE.is("turn of " + people, x.bestTurn(0, 1), few ? -3 : 9);
            DUE.is("no turn of " + people, x.team(0, 3, 10), few ? -3 : -4);
            DUE.is("no turn of " + people, x.team(10, 0, 1), few ? -3 : -6);
            DUE.is("no PACE of " + people, x.bestTurn(0, 0), few ? -3 : -4);
            DUE.is("no PACE of " + people, x.bestTurn(0, 10), few ? -3 : -6);
            // Whoever comes after the first three does not count.
            x.comes(people < 3 ? 60 : 1, 1, 9);
        }
    }

    /** 27 a YARD, 40 a CHANGE; none ahead of the first YARD and none behind the last. */
    private static void turns() {
        DUE.all(Due.of("n01;p6019;p6019;p6019;"), """
            team 1 0 1 = 27
            team 9 0 1 = 27
            bestTurn 0 1 = 1
            yards 2 = 1
            team 1 0 1 = 94
            team 2 0 1 = 54
            bestTurn 0 1 = 2
            yards 4 = 2
            team 1 0 1 = 228
            team 3 0 1 = 148
            team 4 0 1 = 108
            bestTurn 0 1 = 4
            yards 9 = 4
            team 1 0 1 = 563
            team 8 0 1 = 283
            team 9 0 1 = 243
            bestTurn 0 1 = 9
            yards 10 = 9
            team 1 0 1 = 630
            team 4 0 1 = 350
            team 5 0 1 = 310
            team 9 0 1 = 310
            bestTurn 0 1 = 5
            yards 20 = 10
            team 1 0 1 = 1300
            team 6 0 1 = 660
            team 7 0 1 = 620
            team 9 0 1 = 620
            bestTurn 0 1 = 7
            """);
        // LEFT is ARMS anew: with ARMS 3 a REST ahead of each YARD but the first of a turn.
        DUE.all(Due.of("n04;p0319;p0319;p0319;"), """
            team 1 0 1 = 228
            team 2 0 1 = 178
            team 3 0 1 = 178
            team 4 0 1 = 153
            """);
        // 2 falls on her nose, and she walks on YARDS 2 and 5; then it is 0 anew.
        DUE.all(Due.of("n07;p6019;p6019;p6011;"), """
            team 1 0 2 = 488
            team 3 0 2 = 288
            team 2 0 2 = 368
            yards 6 = 7
            team 1 0 2 = 424
            yards 3 = 6
            team 1 0 2 = 192
            yards 2 = 3
            team 1 0 2 = 88
            """);
    }

    private static void teamsWithNever() {
        DUE.all(Due.of("n09;p6019;p6019;p0219;p6019;"), """
            team 4 0 1 = -9
            team 5 0 1 = 283
            team 8 0 1 = 283
            team 9 0 1 = 243
            bestTurn 0 1 = 9
            yards 10 = 9
            team 4 0 1 = -9
            team 5 0 1 = 310
            bestTurn 0 1 = 5
            yards 19 = 10
            team 9 0 1 = -9
            bestTurn 0 1 = -9
            yards 18 = 19
            team 9 0 1 = 526
            team 8 0 1 = -9
            bestTurn 0 1 = 9
            yards 1 = 18
            person 0 0 2 = 60
            team 1 0 1 = -9
            bestTurn 0 1 = -9
            """);
    }

    // ---- Catching

    /** The first gains 40 on each YARD. */
    private static void catches() {
        DUE.all(Due.of("n01;p6019;p6019;p6019;p6011;"), """
            catches 0 1 2 3 2 0 = 0
            catches 0 1 2 3 2 40 = 0
            catches 0 1 2 3 2 41 = -9
            catches 2 3 0 1 2 0 = -9
            catches 2 3 0 1 1 0 = 0
            catches 2 3 0 1 1 1 = -9
            yards 2 = 1
            catches 0 1 2 3 2 41 = 1
            catches 0 1 2 3 2 80 = 1
            catches 0 1 2 3 2 81 = -9
            yards 20 = 2
            catches 0 1 2 3 2 600 = 14
            catches 0 1 2 3 2 601 = 15
            catches 0 1 2 3 2 770 = 19
            catches 0 1 2 3 2 771 = -9
            catches 0 1 2 3 2 999 = -9
            catches 0 1 2 3 2 1000 = -6
            catches 0 1 2 3 2 -1 = -4
            """);
    }

    private static void catchesWithNever() {
        DUE.all(Due.of("n03;p6019;p6019;p6019;p0319;"), """
            catches 0 1 2 3 2 999 = 0
            catches 2 3 0 1 2 0 = -9
            yard 0 1 3 0 = 0
            catches 0 1 2 3 1 0 = 0
            catches 0 1 2 3 1 1 = 1
            catches 0 1 2 3 1 999 = 1
            catches 2 3 0 1 1 0 = 0
            catches 2 3 0 1 1 1 = -9
            yard 0 1 0 0 = 30
            yard 0 2 3 0 = 0
            catches 0 1 2 3 1 999 = 2
            person 1 0 3 = 60
            catches 0 1 2 3 1 0 = 0
            catches 0 1 2 3 1 1 = -9
            """);
    }

    // ---- Ladders and fairness

    private static void howManyForLadders() {
        HandsForAWheel x = new HandsForAWheel();
        for (int people = 0; people <= 6; people++) {
            int twos = people * (people - 1);
            DUE.is("first of " + people, x.ladder(0, 1, 0), twos == 0 ? -9 : 1);
            DUE.is("last of " + people, x.ladder(0, 1, twos - 1), twos == 0 ? -4 : 11 * people - 12);
            DUE.is("behind the last of " + people, x.ladder(0, 1, twos), -9);
            DUE.is("far behind of " + people, x.ladder(0, 1, Integer.MAX_VALUE), -9);
            DUE.is("below", x.ladder(0, 1, -1), -4);
            DUE.is("fair of " + people, x.fair(0, 1), people < 2 ? -9 : 1);
            x.comes(60, 1, 9);
        }
        DUE.all(Due.of("p6011;p6019;p6011;n01;"), """
            ladder 0 2 0 = 1
            ladder 0 2 1 = 21
            ladder 0 2 2 = 2
            ladder 0 2 3 = 10
            ladder 0 2 4 = 12
            ladder 0 2 5 = 20
            ladder 0 2 6 = -9
            ladder 3 0 0 = -4
            ladder 3 1 -1 = -4
            ladder 3 1 0 = -6
            ladder 0 10 0 = -6
            """);
    }

    private static void laddersWithNever() {
        DUE.all(Due.of("p6019;p0319;p6011;n01;"), """
            ladder 0 2 0 = 10
            ladder 0 2 1 = 20
            ladder 0 2 2 = 2
            ladder 0 2 3 = 12
            ladder 0 2 4 = -9
            ladder 0 1 5 = 21
            person 0 0 3 = 60
            person 2 0 3 = 60
            ladder 0 2 0 = -9
            """);
    }

    private static void fair() {
        DUE.all(Due.of("p6011;p6019;p6011;p6019;n01;"), """
            fair 0 2 = 2
            fair 0 1 = 1
            person 2 0 3 = 60
            fair 0 2 = 13
            person 3 0 3 = 60
            fair 0 2 = 1
            person 1 0 3 = 60
            fair 0 2 = -9
            person 0 0 3 = 60
            fair 0 2 = -9
            comes 60 1 9 = 4
            fair 0 2 = -9
            comes 60 1 1 = 5
            fair 0 2 = 45
            person 0 0 60 = 3
            fair 0 2 = 5
            person 4 0 3 = 60
            fair 0 2 = 5
            person 5 2 2 = 1
            fair 0 2 = 5
            """);
    }
}
