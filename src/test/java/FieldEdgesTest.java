/**
 * Part I, THE IMAGE and the counts, sentence by sentence: promises 1 to 12 and 53 to 55 at the least and the greatest
 * number of each range, with nobody, with no letters, and with all that there is room for. All reckoned by hand.
 */
public final class FieldEdgesTest {
    private static final Due DUE = new Due("FieldEdgesTest");

    private static final String SIX = "p1011;p1111;p1211;p1311;p1411;p6099;";

    public static void main(String[] args) {
        tenPlainYardsAndNobody();
        oneYardAndTwenty();
        yardsBeyondStay();
        kindsAndFigures();
        sixPeople();
        ofOnePerson();
        loads();
        tenthsOfYards();
        limits();
        DUE.end();
    }

    private static void tenPlainYardsAndNobody() {
        HandsForAWheel x = new HandsForAWheel();
        DUE.all(x, """
            count 0 = 0
            count 1 = 10
            count 2 = 0
            count 3 = 0
            count 4 = 0
            count 5 = 0
            count 6 = 0
            ground 0 9 0 = 0
            ground 1 9 1 = 0
            ground 0 10 0 = -1
            ground 1 10 1 = -1
            yards 20 = 10
            """);
        for (int yard = 0; yard < 20; yard++) {
            for (int lane = 0; lane < 2; lane++) {
                DUE.is("KIND 0 at first", x.ground(lane, yard, 0), 0);
                DUE.is("FIGURE 0 at first", x.ground(lane, yard, 1), 0);
            }
        }
        for (int i = 11; i <= 16; i++) {
            int due = i == 11 ? 2 : 0;
            DUE.is("REFUSALS at first, but for two", x.count(i), due);
        }
    }

    private static void oneYardAndTwenty() {
        DUE.all(new HandsForAWheel(), """
            yards 1 = 10
            count 1 = 1
            ground 0 0 0 = 0
            ground 1 0 1 = 0
            ground 0 1 0 = -1
            ground 0 -1 0 = -1
            yard 1 0 5 9 = 0
            yard 1 1 5 9 = -1
            yards 0 = -4
            yards -2147483648 = -4
            count 1 = 1
            yards 2 = 1
            yards 19 = 2
            ground 0 18 0 = 0
            ground 0 19 0 = -1
            yards 20 = 19
            yards 21 = -6
            yards 2147483647 = -6
            count 1 = 20
            ground 0 19 0 = 0
            ground 0 20 0 = -1
            ground 2 19 0 = -1
            ground -1 19 0 = -1
            ground 1 19 2 = -2
            ground 1 19 -1 = -2
            ground 1 20 2 = -1
            yard 1 19 5 9 = 0
            yard 0 19 1 1 = 0
            yard 1 20 5 9 = -1
            ground 1 19 0 = 5
            ground 1 19 1 = 9
            ground 0 19 0 = 1
            ground 1 18 0 = 0
            ground 1 0 0 = 5
            """);
    }

    private static void yardsBeyondStay() {
        DUE.all(new HandsForAWheel(), """
            yards 20 = 10
            yard 0 19 5 9 = 0
            yard 1 1 4 8 = 0
            yards 1 = 20
            yard 0 0 2 1 = 0
            yards 20 = 1
            ground 0 19 0 = 5
            ground 0 19 1 = 9
            ground 1 1 0 = 4
            ground 1 1 1 = 8
            ground 0 0 0 = 2
            image = 0
            yards 19 = 20
            restore = 0
            ground 0 19 1 = 9
            """);
        HandsForAWheel x = Due.of("n20;y01959;n01;");
        DUE.is("by letters, too", Due.field(x, "n20;"), 1);
        DUE.is("a YARD beyond", x.ground(0, 19, 0), 5);
        DUE.is("a YARD beyond", x.ground(0, 19, 1), 9);
        x.yards(19);
        x.image();
        x.yards(20);
        x.yard(0, 19, 1, 1);
        x.restore();
        x.yards(20);
        DUE.is("a YARD beyond was in THE IMAGE", x.ground(0, 19, 0), 5);
    }

    private static void kindsAndFigures() {
        HandsForAWheel x = new HandsForAWheel();
        int before = 0;
        for (int kind = 0; kind <= 5; kind++) {
            for (int figure = 0; figure <= 9; figure += 9) {
                DUE.is("what it had", x.yard(0, 9, kind, figure), before);
                DUE.is("KIND", x.ground(0, 9, 0), kind);
                DUE.is("FIGURE", x.ground(0, 9, 1), figure);
                DUE.is("the other LANE", x.ground(1, 9, 0) + x.ground(1, 9, 1), 0);
                before = 10 * kind + figure;
            }
        }
        DUE.all(x, """
            yard 0 9 6 0 = -2
            yard 0 9 -1 0 = -2
            yard 0 9 6 -1 = -2
            yard 0 9 -1 10 = -2
            yard 0 9 0 -1 = -4
            yard 0 9 0 10 = -6
            yard -1 9 6 -1 = -1
            yard 2 9 0 0 = -1
            yard 0 -1 0 0 = -1
            yard 0 10 6 10 = -1
            ground 0 9 0 = 5
            ground 0 9 1 = 9
            count 6 = 8
            count 11 = 4
            count 12 = 4
            count 14 = 1
            count 16 = 1
            """);
    }

    private static void sixPeople() {
        DUE.all(new HandsForAWheel(), """
            one 0 0 = -1
            person 0 0 1 = -1
            count 0 = 0
            comes 1 1 1 = 0
            one 0 0 = 1
            one 0 1 = 1
            one 0 2 = 1
            one 1 0 = -1
            comes 60 9 9 = 1
            one 1 0 = 60
            one 1 1 = 9
            one 1 2 = 9
            comes 0 1 1 = -4
            comes 1 0 1 = -4
            comes 1 1 0 = -4
            comes 61 10 0 = -4
            comes 61 9 9 = -6
            comes 60 10 9 = -6
            comes 60 9 10 = -6
            count 0 = 2
            comes 2 2 2 = 2
            comes 3 3 3 = 3
            comes 4 4 4 = 4
            comes 5 5 5 = 5
            count 0 = 6
            comes 6 6 6 = -6
            comes 0 6 6 = -4
            count 0 = 6
            count 3 = 75
            one 5 0 = 5
            one 5 2 = 5
            one 6 0 = -1
            one -1 0 = -1
            one 6 3 = -1
            one 5 3 = -2
            one 5 -1 = -2
            count 14 = 5
            count 16 = 4
            """);
    }

    private static void ofOnePerson() {
        DUE.all(Due.of(SIX), """
            person 5 0 1 = 60
            person 5 0 60 = 1
            person 5 0 0 = -4
            person 5 0 61 = -6
            person 5 1 1 = 9
            person 5 1 9 = 1
            person 5 1 0 = -4
            person 5 1 10 = -6
            person 5 2 1 = 9
            person 5 2 9 = 1
            person 5 2 0 = -4
            person 5 2 10 = -6
            person 5 2 60 = -6
            person 5 3 0 = -2
            person 5 3 61 = -2
            person 5 -1 1 = -2
            person 6 0 1 = -1
            person 6 3 0 = -1
            person -1 0 1 = -1
            one 5 0 = 60
            one 5 1 = 9
            one 5 2 = 9
            one 4 0 = 14
            one 0 2 = 1
            count 3 = 120
            """);
    }

    // ---- What one who walks feels

    /** HEAVY times (4 less HOLD) by 2, cut: all there are. */
    private static void loads() {
        int[][] plain = {{2, 4, 6, 8, 10, 12, 14, 16, 18}, {1, 3, 4, 6, 7, 9, 10, 12, 13}, {1, 2, 3, 4, 5, 6, 7, 8, 9}};
        HandsForAWheel x = Due.of("p6019;");
        for (int heavy = 1; heavy <= 9; heavy++) {
            x.person(0, 1, heavy);
            for (int hold = 0; hold <= 2; hold++) {
                DUE.is("LOAD of " + heavy + " by " + hold, x.feels(0, 0, hold, 1, 0), plain[hold][heavy - 1]);
                DUE.is("whatever the PACE", x.feels(9, 0, hold, 9, 0), plain[hold][heavy - 1]);
            }
        }
        // With each FIGURE: of HEAVY 4 by the knee (4 on a YARD), of HEAVY 1 by the shin (1), of HEAVY 9 by the ankle (18).
        loadsOn(x, 0, new int[] {4, 4, 4, 4, 4, 4, 4, 4, 4, 4}, 1, 18);
        loadsOn(x, 1, new int[] {4, 4, 3, 3, 2, 2, 1, 1, 1, 1}, 1, 14);
        loadsOn(x, 2, new int[] {4, 5, 6, 7, 8, 9, 10, 11, 12, 13}, 10, 27);
        loadsOn(x, 3, new int[] {6, 6, 6, 6, 6, 6, 6, 6, 6, 6}, 3, 20);
        loadsOn(x, 4, new int[] {7, 7, 7, 7, 7, 7, 7, 7, 7, 7}, 4, 21);
        loadsOn(x, 5, new int[] {8, 10, 12, 14, 16, 18, 20, 22, 24, 26}, 20, 54);
    }

    private static void loadsOn(HandsForAWheel x, int kind, int[] due, int lightest, int heaviest) {
        x.person(0, 1, 4);
        for (int figure = 0; figure <= 9; figure++) {
            x.yard(0, 5, kind, figure);
            DUE.is("LOAD on KIND " + kind + " with " + figure, x.feels(5, 0, 2, 1, 0), due[figure]);
        }
        x.person(0, 1, 1);
        DUE.is("the least on KIND " + kind + " with 9", x.feels(5, 0, 1, 1, 0), lightest);
        x.person(0, 1, 9);
        DUE.is("the greatest on KIND " + kind, x.feels(5, 0, 0, 1, 0), heaviest);
    }

    /** The least and the greatest PACE and HOLD on each KIND with the least and the greatest FIGURE. */
    private static void tenthsOfYards() {
        HandsForAWheel x = Due.of("p6055;");
        for (int pace = 1; pace <= 9; pace++) {
            DUE.is("TENTHS at " + pace, x.feels(0, 0, 0, pace, 1), 30 - 3 * pace);
            DUE.is("TENTHS by the shin at " + pace, x.feels(0, 0, 1, pace, 1), 32 - 3 * pace);
            DUE.is("TENTHS by the knee at " + pace, x.feels(0, 0, 2, pace, 1), 34 - 3 * pace);
        }
        int[][] due = {{27, 3, 31, 7, 27, 3}, {25, 1, 29, 5, 25, 1}, {27, 3, 31, 7, 36, 12}, {30, 6, 34, 10, 30, 6},
            {30, 6, 34, 10, 39, 15}, {32, 8, 36, 12, 41, 17}};
        for (int kind = 0; kind <= 5; kind++) {
            String on = "TENTHS on KIND " + kind;
            x.yard(0, 5, kind, 0);
            DUE.is(on + " by the ankle at 1", x.feels(5, 0, 0, 1, 1), due[kind][0]);
            DUE.is(on + " by the ankle at 9", x.feels(5, 0, 0, 9, 1), due[kind][1]);
            DUE.is(on + " by the knee at 1", x.feels(5, 0, 2, 1, 1), due[kind][2]);
            DUE.is(on + " by the knee at 9", x.feels(5, 0, 2, 9, 1), due[kind][3]);
            x.yard(0, 5, kind, 9);
            DUE.is(on + " with 9 at 1", x.feels(5, 0, 0, 1, 1), due[kind][4]);
            DUE.is(on + " with 9 at 9", x.feels(5, 0, 0, 9, 1), due[kind][5]);
        }
        x.yard(0, 5, 1, 9);
        DUE.is("DOWNHILL by the ankle at 8", x.feels(5, 0, 0, 8, 1), 4);
    }

    /** HANDS 1, 2, 3 and 9 on each KIND; 1 at least of all. */
    private static void limits() {
        int[][] due = {{1, 2, 3, 9}, {3, 4, 5, 11}, {1, 1, 2, 8}, {1, 1, 2, 8}, {1, 1, 2, 8}, {1, 1, 1, 7}};
        HandsForAWheel x = Due.of("p6051;p6052;p6053;p6059;");
        for (int kind = 0; kind <= 5; kind++) {
            for (int figure = 0; figure <= 9; figure += 9) {
                x.yard(0, 0, kind, figure);
                for (int walks = 0; walks < 4; walks++) {
                    DUE.is("LIMIT on KIND " + kind, x.feels(0, walks, 2, 9, 2), due[kind][walks]);
                }
            }
        }
        DUE.all(x, """
            feels 9 3 0 1 2 = 9
            feels 10 3 0 1 2 = -1
            feels -1 3 0 1 2 = -1
            feels 0 4 0 1 2 = -1
            feels 0 3 -1 1 2 = -4
            feels 0 3 0 0 2 = -4
            feels 0 3 3 1 2 = -6
            feels 0 3 0 10 2 = -6
            feels 0 3 0 1 3 = -2
            feels 0 3 0 1 -1 = -2
            lane 1 = 0
            feels 0 3 0 9 2 = 9
            """);
    }
}
