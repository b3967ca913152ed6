/**
 * Promises 13 to 20, 36 and 46, sentence by sentence: LEFT just enough and 1 too little, no LEFT, one YARD and twenty, a
 * CHANGE ahead of the first yard that can be and of the last, as soon as and sooner than. All reckoned by hand.
 *
 * <p>One with HEAVY 1 has a LOAD of 2 by the ankle, so that she TIRES by 3 with PACE 1; a plain YARD takes 27 TENTHS then.
 */
public final class RaceEdgesTest {
    private static final Due DUE = new Due("RaceEdgesTest");

    public static void main(String[] args) {
        leftJustEnough();
        sixRests();
        noses();
        twentyYards();
        changedOver();
        bestPaces();
        bestHolds();
        bestChanges();
        whoFirst();
        relays();
        soonest();
        restsAsLateAsCanBe();
        even();
        lanes();
        lanesAsSoon();
        DUE.end();
    }

    /** ARMS are twice what TIRES, 1 less, just what TIRES, and 1 less than that. */
    private static void leftJustEnough() {
        DUE.all(Due.of("n02;p1015;p0915;p0515;p0415;"), """
            race 1 0 0 3 0 = 42
            race 1 0 0 3 1 = 0
            race 1 0 0 3 2 = 0
            race 1 0 0 3 3 = 0
            race 0 1 0 3 0 = 57
            race 0 1 0 3 2 = 1
            race 0 1 0 3 3 = 4
            race 0 2 0 3 0 = 57
            race 0 2 0 3 2 = 1
            race 0 2 0 3 3 = 0
            race 0 3 0 3 0 = -9
            race 0 3 0 3 1 = -9
            race 0 3 0 3 2 = -9
            race 0 3 0 3 3 = -9
            race 0 3 0 2 0 = 63
            race 0 3 0 2 3 = 0
            yards 3 = 2
            race 1 0 0 3 0 = 78
            race 1 0 0 3 2 = 1
            race 1 0 0 3 3 = 5
            yards 1 = 3
            race 1 0 0 3 0 = 21
            race 1 0 0 3 3 = 5
            race 0 2 0 3 3 = 0
            race 0 3 0 3 3 = -9
            """);
    }

    /** From no LEFT up to 60 ARMS. */
    private static void sixRests() {
        DUE.all(Due.of("n02;p6099;p5999;y00059;y00159;"), """
            race 1 0 0 6 0 = 142
            race 1 0 0 6 1 = 0
            race 1 0 0 6 2 = 6
            race 1 0 0 6 3 = 0
            race 1 0 0 7 0 = -9
            race 1 0 0 1 0 = 157
            race 1 0 0 1 2 = 5
            race 0 1 0 6 0 = -9
            race 0 1 0 5 0 = 148
            race 0 1 0 5 2 = 6
            race 0 1 0 5 3 = 0
            """);
    }

    /** PACE just the LIMIT and 1 more; LEFT 5 more, but ARMS at most. */
    private static void noses() {
        DUE.all(Due.of("n01;p1013;p1011;p1211;p6017;p6016;"), """
            race 1 0 0 3 0 = 21
            race 1 0 0 3 1 = 0
            race 1 0 0 3 3 = 5
            race 1 0 0 4 0 = 58
            race 1 0 0 4 1 = 1
            race 1 0 0 4 2 = 0
            race 1 0 0 4 3 = 9
            race 0 1 2 2 0 = 68
            race 0 1 2 2 3 = 10
            race 0 1 2 4 3 = 10
            race 0 1 2 5 3 = 9
            race 0 2 2 2 3 = 12
            race 0 2 2 1 1 = 0
            yard 0 0 1 0 = 0
            race 0 3 0 9 1 = 0
            race 0 3 0 9 0 = 1
            race 0 4 0 9 1 = 1
            race 0 4 0 9 0 = 41
            yard 0 0 5 0 = 10
            race 0 3 0 5 1 = 0
            race 0 3 0 6 1 = 1
            """);
        DUE.all(Due.of("n20;p6011;p6019;"), """
            race 1 0 0 2 0 = 1280
            race 1 0 0 2 1 = 20
            race 1 0 0 2 2 = 0
            race 1 0 0 2 3 = 60
            """);
    }

    private static void twentyYards() {
        DUE.all(Due.of("n20;p6019;p5919;p2019;"), """
            race 1 0 0 1 0 = 540
            race 1 0 0 1 2 = 0
            race 1 0 0 1 3 = 0
            race 0 1 0 1 0 = 555
            race 0 1 0 1 2 = 1
            race 0 1 0 1 3 = 9
            yard 0 19 5 9 = 0
            race 0 2 0 1 0 = -9
            race 0 2 0 1 2 = -9
            race 1 0 0 1 0 = 584
            yards 19 = 20
            race 0 2 0 1 0 = 573
            race 0 2 0 1 2 = 4
            race 0 2 0 1 3 = 3
            yards 20 = 19
            lane 1 = 0
            race 0 2 0 1 3 = 0
            """);
    }

    // ---- Changes

    private static void changedOver() {
        DUE.all(Due.of("n03;p6019;p0519;p0219;"), """
            raceOver 1 0 0 1 1 = 136
            raceOver 1 0 0 1 2 = 121
            raceOver 0 1 0 1 1 = 121
            raceOver 0 1 0 1 2 = 136
            raceOver 2 0 0 1 1 = -9
            raceOver 2 0 0 1 2 = -9
            raceOver 0 2 0 1 1 = -9
            raceOver 0 2 0 1 2 = -9
            raceOver 1 0 0 1 0 = -4
            raceOver 1 0 0 1 -1 = -4
            raceOver 1 0 0 1 3 = -6
            yards 20 = 3
            raceOver 1 0 0 1 19 = 580
            raceOver 1 0 0 1 20 = -6
            yards 2 = 20
            raceOver 1 0 0 1 1 = 94
            raceOver 1 0 0 1 2 = -6
            yards 1 = 2
            raceOver 1 0 0 1 1 = -6
            raceOver 1 0 0 1 0 = -4
            bestChange 1 0 0 1 = -9
            relay 1 0 0 1 = -9
            """);
    }

    private static void bestChanges() {
        DUE.all(Due.of("n02;p6019;p6011;p0219;"), """
            race 0 1 0 2 0 = 128
            raceOver 0 1 0 2 1 = 128
            bestChange 0 1 0 2 = -9
            bestChange 1 0 0 2 = -9
            bestChange 2 0 0 1 = -9
            bestChange 0 2 0 1 = -9
            yards 3 = 2
            raceOver 0 1 0 2 1 = 152
            bestChange 0 1 0 2 = 1
            yards 4 = 3
            yard 0 1 1 0 = 0
            raceOver 0 1 0 2 1 = 174
            raceOver 0 1 0 2 2 = 174
            bestChange 0 1 0 2 = 1
            """);
        // The last YARD is too much for who walks, and the other falls on her nose.
        DUE.all(Due.of("n03;p1019;p6011;y00254;"), """
            race 1 0 0 2 0 = -9
            raceOver 1 0 0 2 1 = 201
            raceOver 1 0 0 2 2 = 161
            bestChange 1 0 0 2 = 2
            """);
        DUE.is("ahead of the last of twenty", Due.of("n20;p1019;p6011;y01954;").bestChange(1, 0, 0, 2), 19);
    }

    private static void whoFirst() {
        DUE.all(Due.of("n01;p6019;p6019;p6011;p0219;p0119;"), """
            whoFirst 0 1 0 1 = 0
            whoFirst 0 2 0 2 = 1
            whoFirst 2 0 0 2 = 0
            whoFirst 2 0 0 1 = 0
            whoFirst 0 2 0 1 = 0
            whoFirst 0 3 0 1 = 1
            whoFirst 3 0 0 1 = 0
            whoFirst 3 4 0 1 = 0
            """);
    }

    private static void relays() {
        DUE.all(Due.of("n02;p6019;p6011;"), """
            relay 0 1 0 2 = -9
            yards 3 = 2
            relay 0 1 0 2 = -9
            yards 4 = 3
            relay 0 1 0 2 = -9
            yards 5 = 4
            relay 0 1 0 2 = 104
            yards 6 = 5
            relay 0 1 0 2 = 105
            yard 0 1 1 0 = 0
            relay 0 1 0 2 = 105
            yard 0 4 1 0 = 0
            yard 0 5 1 0 = 0
            relay 0 1 0 2 = -9
            """);
        // UPHILL is too much for 0, BUMPS are too much for 1.
        DUE.all(Due.of("n03;p1019;p3099;y00129;y00250;"), """
            race 1 0 0 1 0 = -9
            bestChange 1 0 0 1 = -9
            relay 1 0 0 1 = 102
            relay 0 1 0 1 = -9
            """);
        DUE.is("ahead of the last two of twenty", Due.of("n20;p1019;p3099;y01829;y01950;").relay(1, 0, 0, 1), 1819);
    }

    // ---- The best pace and hold

    private static void bestPaces() {
        DUE.all(Due.of("n01;p6019;p6011;p0319;p0219;"), """
            bestPace 1 0 0 = 9
            bestPace 0 1 0 = 1
            bestPace 0 2 0 = 1
            bestPace 0 3 0 = -9
            bestPace 0 3 1 = 1
            """);
        // A REST takes as long as five YARDS with a PACE 1 less.
        DUE.all(Due.of("n05;p1512;p6019;"), """
            race 1 0 0 1 0 = 135
            race 1 0 0 2 0 = 135
            bestPace 1 0 0 = 1
            """);
    }

    private static void bestHolds() {
        DUE.all(Due.of("n15;p3019;p0219;p0119;"), """
            race 1 0 0 1 0 = 435
            race 1 0 1 1 0 = 435
            bestHold 1 0 1 = 0
            yards 14 = 15
            race 1 0 0 1 0 = 408
            race 1 0 1 1 0 = 406
            bestHold 1 0 1 = 1
            yards 1 = 14
            bestHold 1 0 1 = 0
            bestHold 0 1 1 = 1
            bestHold 0 2 1 = -9
            person 1 1 2 = 1
            bestHold 0 1 1 = -9
            person 1 0 3 = 2
            bestHold 0 1 1 = 2
            """);
    }

    // ---- The soonest ways

    private static void soonest() {
        DUE.all(Due.of("n01;p6019;p0319;p0219;"), """
            soonest 0 0 -1 0 = 3
            soonest 0 0 -1 1 = 3
            soonest 0 0 0 0 = 9
            soonest 0 0 0 1 = 0
            soonest 1 0 -1 0 = 27
            soonest 1 0 0 0 = 1
            soonest 1 0 0 1 = 0
            soonest 2 0 -1 0 = -9
            soonest 2 0 0 0 = -9
            soonest 2 0 0 1 = -9
            soonest 0 0 1 0 = -1
            soonest 0 0 -2 0 = -1
            soonest 0 0 -1 2 = -2
            """);
        // The greatest LOAD there is: with fewer than six RESTS she could go with PACE 1 only.
        DUE.all(Due.of("n02;p6099;y00059;y00159;"), """
            soonest 0 0 -1 0 = 142
            soonest 0 0 0 0 = 6
            soonest 0 0 0 1 = 0
            soonest 0 0 1 0 = 6
            soonest 0 0 1 1 = 6
            """);
        DUE.all(Due.of("n20;p2019;y01959;"), """
            soonest 0 0 -1 0 = -9
            soonest 0 0 0 0 = -9
            soonest 0 0 0 1 = -9
            soonest 0 0 19 0 = -9
            soonest 0 0 19 1 = -9
            soonest 0 0 20 0 = -1
            even 0 0 0 = -9
            even 0 0 1 = -9
            """);
    }

    /** With HANDS 1 all go with PACE 1; one REST is wanted, and it is ahead of the last YARD that can do. */
    private static void restsAsLateAsCanBe() {
        DUE.all(Due.of("n03;p0611;"), """
            soonest 0 0 -1 0 = 96
            soonest 0 0 0 1 = 0
            soonest 0 0 1 1 = 0
            soonest 0 0 2 1 = 1
            soonest 0 0 0 0 = 1
            soonest 0 0 1 0 = 1
            soonest 0 0 2 0 = 1
            yards 2 = 3
            soonest 0 0 -1 0 = 54
            soonest 0 0 1 1 = 0
            """);
    }

    private static void even() {
        DUE.all(Due.of("n01;p6019;p6011;p0319;p0219;"), """
            even 0 0 0 = 1
            even 0 0 1 = 0
            even 1 0 0 = 1
            even 1 0 1 = 0
            even 2 0 0 = 1
            even 2 0 1 = 0
            even 3 0 0 = -9
            even 3 0 1 = -9
            even 3 0 2 = -2
            """);
        // With PACE 9 a NOSE on the one YARD, with PACE 8 three TENTHS more on the other one.
        DUE.all(Due.of("n02;p6019;y00120;"), """
            soonest 0 0 -1 0 = 9
            soonest 0 0 0 0 = 9
            soonest 0 0 1 0 = 8
            even 0 0 0 = 0
            even 0 0 1 = 3
            """);
    }

    private static void lanes() {
        DUE.all(Due.of("n01;p6019;p0219;"), """
            lanes 0 0 1 -1 = 27
            lanes 0 0 1 0 = 0
            lanes 0 0 1 1 = -1
            lanes 0 0 1 -2 = -1
            lanes 1 0 1 -1 = -9
            lanes 1 0 1 0 = -9
            lane 1 = 0
            lanes 0 0 1 0 = 1
            yard 1 0 5 9 = 0
            lanes 0 0 1 -1 = 33
            lanes 0 0 1 0 = 0
            yard 0 0 5 9 = 0
            lanes 0 0 1 -1 = 41
            lanes 0 0 1 0 = 1
            """);
        DUE.all(Due.of("n20;p6019;p2019;y01959;"), """
            lanes 0 0 1 -1 = 546
            lanes 0 0 1 18 = 0
            lanes 0 0 1 19 = 1
            lanes 0 0 1 20 = -1
            lanes 1 0 1 19 = 1
            yard 1 19 5 9 = 0
            lanes 1 0 1 -1 = -9
            lanes 1 0 1 0 = -9
            lanes 1 0 1 19 = -9
            """);
    }

    /** Two WET YARDS more take as long as going into the other LANE: then staying is first. */
    private static void lanesAsSoon() {
        DUE.all(Due.of("n03;p6019;y00130;y00230;"), """
            lanes 0 0 1 -1 = 87
            lanes 0 0 1 0 = 0
            lanes 0 0 1 1 = 0
            lanes 0 0 1 2 = 0
            yards 4 = 3
            yard 0 3 3 0 = 0
            lanes 0 0 1 -1 = 114
            lanes 0 0 1 0 = 0
            lanes 0 0 1 1 = 1
            lanes 0 0 1 2 = 1
            lanes 0 0 1 3 = 1
            yard 0 0 3 0 = 0
            lanes 0 0 1 -1 = 114
            lanes 0 0 1 0 = 1
            lanes 0 0 1 3 = 1
            lane 1 = 0
            lanes 0 0 1 -1 = 108
            lanes 0 0 1 0 = 1
            lanes 0 0 1 3 = 1
            """);
        // With all her ARMS she stays, with what is LEFT behind a YARD she would want a REST.
        DUE.all(Due.of("n02;p0619;y00023;y00123;n01;"), """
            lanes 0 0 1 -1 = 30
            lanes 0 0 1 0 = 0
            yard 0 0 0 0 = 23
            yards 2 = 1
            lanes 0 0 1 -1 = 60
            lanes 0 0 1 0 = 0
            lanes 0 0 1 1 = 1
            """);
        // There and back takes 12: as long as THISTLES with 9 more, less long than BUMPS with 9.
        DUE.all(Due.of("n03;p6019;y00149;y10059;y10259;"), """
            lanes 0 0 1 -1 = 93
            lanes 0 0 1 1 = 0
            lanes 0 0 1 2 = 0
            yard 0 1 5 9 = 49
            lanes 0 0 1 -1 = 93
            lanes 0 0 1 0 = 0
            lanes 0 0 1 1 = 1
            lanes 0 0 1 2 = 0
            """);
    }
}
