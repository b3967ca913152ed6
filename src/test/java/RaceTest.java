/** Promises 13 to 20, 36 and 46: a race of two, changes, the soonest ways. All reckoned by hand. */
public final class RaceTest {
    private static final Due DUE = new Due("RaceTest");

    public static void main(String[] args) {
        races();
        changes();
        soonest();
        even();
        lanes();
        DUE.end();
    }

    /** 0 and 1 can, 2 falls on her nose, 3 can do it by the knee alone, 4 just so. */
    private static HandsForAWheel people() {
        return Due.of("p2045;p3063;p1021;p1099;p1999;");
    }

    private static void races() {
        HandsForAWheel x = people();
        DUE.all(x, """
            race 1 0 0 3 0 = 345
            race 1 0 0 3 1 = 0
            race 1 0 0 3 2 = 9
            race 1 0 0 3 3 = 0
            race 2 0 0 3 0 = 345
            race 1 0 2 3 0 = 325
            race 1 0 2 3 2 = 5
            race 1 0 1 3 0 = 335
            race 1 0 0 6 0 = 655
            race 1 0 0 6 1 = 10
            race 1 0 0 6 2 = 9
            race 1 0 0 6 3 = 11
            race 0 2 0 3 0 = 670
            race 0 3 0 1 0 = -9
            race 0 3 0 1 1 = -9
            race 0 3 0 1 2 = -9
            race 0 3 0 1 3 = -9
            race 0 3 2 1 0 = 445
            race 0 4 0 1 0 = 540
            race 0 4 0 1 2 = 18
            race 0 4 0 2 0 = -9
            bestPace 1 0 0 = 4
            bestPace 0 3 0 = -9
            bestPace 0 3 2 = 1
            bestHold 1 0 3 = 2
            bestHold 0 3 1 = 2
            bestHold 0 3 2 = -9
            whoFirst 1 0 0 3 = 0
            whoFirst 0 1 0 3 = 1
            whoFirst 0 3 0 3 = 1
            whoFirst 3 0 0 3 = 0
            whoFirst 3 4 0 9 = 0
            yards 1 = 10
            race 1 0 0 5 0 = 15
            race 1 0 0 5 3 = 7
            bestHold 1 0 3 = 0
            bestPace 1 0 0 = 5
            comes 20 4 5 = 5
            whoFirst 0 5 0 3 = 0
            """);
        HandsForAWheel lane1 = Due.of("p2045;p3063;n02;y10129;l1;");
        DUE.is("a race in the other lane", lane1.race(1, 0, 0, 3, 0), 81);
    }

    private static void changes() {
        DUE.all(people(), """
            raceOver 1 0 0 3 1 = 415
            raceOver 1 0 0 3 5 = 385
            raceOver 1 0 0 3 9 = 370
            raceOver 0 2 0 3 1 = 410
            raceOver 3 0 0 3 5 = -9
            raceOver 0 3 0 3 1 = -9
            raceOver 1 0 0 3 10 = -6
            raceOver 1 0 0 3 0 = -4
            bestChange 1 0 0 3 = -9
            bestChange 0 2 0 3 = 1
            bestChange 0 3 0 3 = -9
            relay 0 2 0 3 = 109
            relay 1 0 0 3 = -9
            relay 0 3 0 3 = -9
            yards 2 = 10
            relay 0 2 0 3 = -9
            bestChange 0 2 0 3 = -9
            yards 3 = 2
            bestChange 0 2 0 3 = 1
            yards 1 = 3
            raceOver 1 0 0 3 1 = -6
            bestChange 0 2 0 3 = -9
            """);
        // Yard 4 is too much for 0 and not for 1; without a change it is never over.
        HandsForAWheel x = Due.of("p2045;p6016;y00459;");
        DUE.all(x, """
            race 1 0 0 3 0 = -9
            bestChange 1 0 0 3 = 1
            raceOver 1 0 0 3 5 = -9
            """);
    }

    private static void soonest() {
        DUE.all(Due.of("p2045;p1099;n01;"), """
            soonest 0 0 -1 0 = 15
            soonest 0 0 0 0 = 5
            soonest 0 0 0 1 = 0
            soonest 1 0 -1 0 = -9
            soonest 1 0 -1 1 = -9
            soonest 1 0 0 0 = -9
            soonest 1 0 0 1 = -9
            soonest 1 2 -1 0 = 31
            yards 2 = 1
            soonest 0 0 -1 0 = 45
            soonest 0 0 0 0 = 5
            soonest 0 0 0 1 = 0
            soonest 0 0 1 0 = 5
            soonest 0 0 1 1 = 1
            """);
        // Of (3, 5), (4, 4) and (5, 3) the first.
        DUE.all(Due.of("p1625;n02;"), """
            soonest 0 0 -1 0 = 36
            soonest 0 0 0 0 = 3
            soonest 0 0 1 0 = 5
            soonest 0 0 0 1 = 0
            soonest 0 0 1 1 = 0
            """);
    }

    private static void even() {
        DUE.all(Due.of("p1625;p1099;n02;"), """
            even 0 0 0 = 1
            even 0 0 1 = 0
            even 1 0 0 = -9
            even 1 0 1 = -9
            """);
        DUE.all(Due.of("p6015;n02;y00120;"), """
            even 0 0 0 = 0
            even 0 0 1 = 3
            soonest 0 0 -1 0 = 33
            soonest 0 0 0 0 = 5
            soonest 0 0 1 0 = 4
            """);
    }

    private static void lanes() {
        HandsForAWheel x = Due.of("p6019;p2019;p1019;n03;y00159;");
        DUE.all(x, """
            lanes 0 0 1 -1 = 87
            lanes 0 0 1 0 = 0
            lanes 0 0 1 1 = 1
            lanes 0 0 1 2 = 1
            lanes 1 0 1 -1 = 87
            lane 1 = 0
            lanes 0 0 1 -1 = 81
            lanes 0 0 1 0 = 1
            lanes 0 0 1 2 = 1
            lane 0 = 1
            yard 1 1 5 9 = 0
            lanes 0 0 1 -1 = 95
            lanes 0 0 1 1 = 0
            lanes 1 0 1 -1 = -9
            lanes 1 0 1 0 = -9
            lanes 1 0 1 2 = -9
            yard 0 1 3 1 = 59
            yard 1 1 0 0 = 59
            lanes 0 0 1 -1 = 84
            lanes 0 0 1 1 = 0
            """);
    }
}
