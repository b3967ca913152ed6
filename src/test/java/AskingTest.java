/**
 * Calls that only ask: what one answers hangs on the field and the PEOPLE alone, not on what was asked ahead of it, and
 * nothing is otherwise than it was afterwards. Every such call ahead of every other, the field being changed between.
 */
public final class AskingTest {
    private static final Due DUE = new Due("AskingTest");

    private static final String[] ASKS = {"ground 0 3 0", "one 1 0", "feels 3 1 1 4 0", "race 0 1 1 3 0", "race 1 0 0 4 1",
        "race 2 3 0 2 2", "race 0 2 2 1 3", "raceOver 0 1 1 3 4", "raceOver 3 2 0 2 1", "bestPace 0 1 1", "bestHold 1 0 3",
        "bestChange 0 1 0 5", "whoFirst 0 1 1 2", "soonest 0 1 -1 0", "soonest 1 0 5 0", "soonest 2 2 6 1", "lanes 0 0 2 -1",
        "lanes 3 1 1 6", "heavy 0 1 1 2", "pairs 1 2 0", "pairs 1 2 1", "pairs 0 1 2", "game 0 1 2 3 1 2", "steers 3 0",
        "steers 2 1", "straight 4", "cup 58 8", "bestCup 7", "inHer 0 1 2", "laughs 3", "bestStop", "pushed 1", "whose 5",
        "team 3 1 2", "bestTurn 0 2", "catches 0 1 2 3 2 9", "even 0 1 1", "even 1 2 0", "worst 0 1 2", "handicap 0 1 2 240",
        "ladder 1 2 3", "careful 0 1", "practice 1 0 3", "half 2 1 2", "turnedRound 0 1 2", "bestLane 1 1 2", "rain 1 2 1",
        "relay 0 1 1 5", "longest 3 1 2 150", "fair 1 2", "lots 0 1 2 5 99 0", "lots 3 0 4 2 -1 1", "count 3"};

    private static final String[] CHANGES = {"yard 0 2 5 3", "yard 0 6 1 5", "yard 1 1 2 7", "yard 1 8 4 4",
        "person 0 0 31", "person 1 1 2", "person 2 2 1", "person 3 0 22", "lane 0"};

    public static void main(String[] args) {
        for (String yards : new String[] {"yards 9", "yards 7", "yards 4", "yards 1"}) {
            int changed = 0;
            for (String after : ASKS) {
                HandsForAWheel plain = made();
                int before = Due.call(plain, after);
                changes(plain, yards);
                int due = Due.call(plain, after);
                changed += due != before ? 1 : 0;
                for (String ahead : ASKS) {
                    asks(ahead, after, before, yards, due);
                }
            }
            DUE.is("most answer otherwise after " + yards, changed > ASKS.length / 2 ? 1 : 0, 1);
        }
        DUE.end();
    }

    private static void asks(String ahead, String after, int before, String yards, int due) {
        HandsForAWheel x = made();
        Due.call(x, ahead);
        DUE.is(after + " behind " + ahead, Due.call(x, after), before);
        changes(x, yards);
        DUE.is(after + " behind a change", Due.call(x, after), due);
        x = made();
        Due.call(x, ahead);
        changes(x, yards);
        DUE.is(after + " behind " + ahead + " and a change", Due.call(x, after), due);
        Due.call(x, ahead);
        DUE.is(after + " behind a change and " + ahead, Due.call(x, after), due);
    }

    private static HandsForAWheel made() {
        return Due.of("n07;l1;p4035;p2014;p6057;p1512;y10023;y10313;y10458;y10639;y00144;y00517;");
    }

    private static void changes(HandsForAWheel x, String yards) {
        x.yards(20);
        for (String change : CHANGES) {
            Due.call(x, change);
        }
        Due.call(x, yards);
    }
}
