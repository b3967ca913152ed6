/**
 * Hands for a wheel: a field of yards in two lanes, and people of whom one walks on hands
 * while one holds her feet and pushes. The document's words stand behind every number here.
 *
 * <p>All rows are made when the object is made; no call makes an object, and no reference is ever null.
 */
public final class HandsForAWheel {

    private static final int NOBODY = -1;
    private static final int OTHER = -2;
    private static final int STATE = -3;
    private static final int BELOW = -4;
    private static final int ROOM = -6;

    private static final int NONE = -9;
    private static final int ONE_IS_NEVER = -999999;
    private static final int FAR_OFF = 1000000000;

    private static final int MOST_YARDS = 20;
    private static final int LANES = 2;
    private static final int MOST_PEOPLE = 6;
    private static final int MOST_ARMS = 60;
    private static final int MOST_HEAVY = 9;
    private static final int MOST_HANDS = 9;
    private static final int MOST_HOLD = 2;
    private static final int MOST_PACE = 9;
    private static final int MOST_FIGURE = 9;
    private static final int MOST_LETTERS = 96;
    private static final int MOST_TOLD = 12;
    private static final int MOST_CHANGES = 8;

    private static final int PLAIN = 0;
    private static final int DOWNHILL = 1;
    private static final int UPHILL = 2;
    private static final int WET = 3;
    private static final int THISTLES = 4;
    private static final int BUMPS = 5;

    private static final int ARMS = 0;
    private static final int HEAVY = 1;
    private static final int HANDS = 2;
    private static final int FIGURES_OF_ONE = 3;

    /** What LEFT can be: 0 .. 60. */
    private static final int LEFTS = MOST_ARMS + 1;

    /** From no LEFT at all, this many RESTS fill the strongest ARMS. */
    private static final int MOST_RESTS = MOST_ARMS / 10;

    private static final int REST_TENTHS = 15;
    private static final int NOSE_TENTHS = 40;
    private static final int CHANGE_TENTHS = 40;
    private static final int OTHER_LANE_TENTHS = 6;
    private static final int SAME_LANE_TENTHS = 25;
    private static final int STOP_TENTHS = 12;
    private static final int LOT_NEVER_TENTHS = 999;

    /** The TENTHS of what is NEVER over: above all others, and many of them together are still an int. */
    private static final int NEVER = 10000000;

    private final Field now = new Field();
    private final Field kept = new Field();
    private final Field draft = new Field();
    private boolean isKept = false;

    private final Changes changes = new Changes();
    private final Text text = new Text();

    private final Cells told = new Cells(MOST_TOLD);
    private int howManyTold = 0;

    private final Cells refusals = new Cells(7);

    private final Course course = new Course();
    private final Walk walk = new Walk();
    private final Walk otherWalk = new Walk();
    private final Cells times = new Cells(MOST_PEOPLE);
    private final Cells offs = new Cells(MOST_YARDS);
    private final SoonestWay soonestWay = new SoonestWay();
    private final LanesWay lanesWay = new LanesWay();

    /** Ten plain yards, nobody. */
    public HandsForAWheel() {
    }

    // ---- The field, the people, what is told of them

    public int feed(int letter) {
        int bad = firstOf(false, letter < 0, letter > 255 || text.fed >= MOST_LETTERS);
        if (bad != 0) {
            return refuse(bad);
        }
        text.adds(letter);
        return text.fed;
    }

    public int field() {
        draft.becomes(now);
        int answer = text.tells(draft);
        text.fed = 0;
        if (answer >= 0) {
            now.becomes(draft);
            changes.forgets();
        }
        return answer;
    }

    public int ground(int lane, int yard, int what) {
        int bad = orOther(noGround(lane, yard) ? NOBODY : 0, what, 1);
        if (bad != 0) {
            return refuse(bad);
        }
        return what == 0 ? now.kindOf(lane, yard) : now.figureOf(lane, yard);
    }

    public int yard(int lane, int yard, int kind, int figure) {
        int bad = orOther(noGround(lane, yard) ? NOBODY : 0, kind, BUMPS);
        if (bad == 0) {
            bad = firstOf(false, figure < 0, figure > MOST_FIGURE);
        }
        if (bad != 0) {
            return refuse(bad);
        }
        int before = 10 * now.kindOf(lane, yard) + now.figureOf(lane, yard);
        changes.adds(Changes.OF_GROUND, Field.placeOf(lane, yard), before);
        now.makes(lane, yard, kind, figure);
        return before;
    }

    public int one(int person, int what) {
        int bad = orOther(nobody(person) ? NOBODY : 0, what, HANDS);
        if (bad != 0) {
            return refuse(bad);
        }
        return now.ofPerson(person, what);
    }

    public int person(int person, int what, int v) {
        int bad = orOther(nobody(person) ? NOBODY : 0, what, HANDS);
        if (bad == 0) {
            bad = firstOf(false, v < 1, v > Field.mostOf(what));
        }
        if (bad != 0) {
            return refuse(bad);
        }
        int before = now.ofPerson(person, what);
        changes.adds(Changes.OF_PERSON, FIGURES_OF_ONE * person + what, before);
        now.people.put(FIGURES_OF_ONE * person + what, v);
        return before;
    }

    public int comes(int arms, int heavy, int hands) {
        boolean tooMuch = arms > MOST_ARMS || heavy > MOST_HEAVY || hands > MOST_HANDS;
        int bad = firstOf(false, arms < 1 || heavy < 1 || hands < 1, tooMuch || now.howMany >= MOST_PEOPLE);
        if (bad != 0) {
            return refuse(bad);
        }
        now.oneMore(arms, heavy, hands);
        changes.forgets();
        return now.howMany - 1;
    }

    public int yards(int n) {
        int bad = firstOf(false, n < 1, n > MOST_YARDS);
        if (bad != 0) {
            return refuse(bad);
        }
        int before = now.yards;
        now.yards = n;
        changes.forgets();
        return before;
    }

    public int lane(int lane) {
        if (isOther(lane, LANES - 1)) {
            return refuse(NOBODY);
        }
        int before = now.lane;
        changes.adds(Changes.OF_LANE, 0, before);
        now.lane = lane;
        return before;
    }

    public int back() {
        if (changes.howMany == 0) {
            return refuse(STATE);
        }
        changes.takesBack(now);
        return changes.howMany;
    }

    public int feels(int yard, int walks, int hold, int pace, int what) {
        int bad = orOther(firstOf(noYard(yard) || nobody(walks), low(hold, pace), high(hold, pace)), what, 2);
        if (bad != 0) {
            return refuse(bad);
        }
        int kind = now.kindOf(now.lane, yard);
        int figure = now.figureOf(now.lane, yard);
        switch (what) {
            case 0:
                return Ground.loadOn(kind, figure, now.ofPerson(walks, HEAVY), hold);
            case 1:
                return Ground.tenthsOf(kind, figure, hold, pace);
            default:
                return Ground.limitOn(kind, now.ofPerson(walks, HANDS));
        }
    }

    // ---- A race of two

    public int race(int holds, int walks, int hold, int pace, int what) {
        int bad = orOther(badTwo(holds, walks, hold, pace), what, 3);
        if (bad != 0) {
            return refuse(bad);
        }
        if (timeOf(walks, hold, pace) >= NEVER) {
            return NONE;
        }
        switch (what) {
            case 0:
                return walk.tenths;
            case 1:
                return walk.noses;
            case 2:
                return walk.rests;
            default:
                return walk.left;
        }
    }

    public int raceOver(int holds, int walks, int hold, int pace, int c) {
        int bad = firstOf(noTwo(holds, walks), low(hold, pace) || c < 1, high(hold, pace) || c >= now.yards);
        if (bad != 0) {
            return refuse(bad);
        }
        course.takes(now, now.lane);
        return toldTime(timeOver(holds, walks, hold, pace, c, MOST_YARDS));
    }

    public int bestPace(int holds, int walks, int hold) {
        int bad = firstOf(noTwo(holds, walks), low(hold, 1), high(hold, 1));
        if (bad != 0) {
            return refuse(bad);
        }
        int best = NONE;
        int fewest = NEVER;
        for (int pace = 1; pace <= MOST_PACE; pace++) {
            int time = timeOf(walks, hold, pace);
            if (time < fewest) {
                fewest = time;
                best = pace;
            }
        }
        return best;
    }

    public int bestHold(int holds, int walks, int pace) {
        int bad = firstOf(noTwo(holds, walks), low(0, pace), high(0, pace));
        if (bad != 0) {
            return refuse(bad);
        }
        int best = NONE;
        int fewest = NEVER;
        for (int hold = 0; hold <= MOST_HOLD; hold++) {
            int time = timeOf(walks, hold, pace);
            if (time < fewest) {
                fewest = time;
                best = hold;
            }
        }
        return best;
    }

    public int bestChange(int holds, int walks, int hold, int pace) {
        int bad = badTwo(holds, walks, hold, pace);
        if (bad != 0) {
            return refuse(bad);
        }
        int best = NONE;
        int fewest = timeOf(walks, hold, pace);
        for (int c = 1; c < now.yards; c++) {
            int time = timeOver(holds, walks, hold, pace, c, MOST_YARDS);
            if (time < fewest) {
                fewest = time;
                best = c;
            }
        }
        return best;
    }

    public int whoFirst(int holds, int walks, int hold, int pace) {
        int bad = badTwo(holds, walks, hold, pace);
        if (bad != 0) {
            return refuse(bad);
        }
        int asTold = timeOf(walks, hold, pace);
        return timeOf(holds, hold, pace) < asTold ? 1 : 0;
    }

    public int relay(int holds, int walks, int hold, int pace) {
        int bad = badTwo(holds, walks, hold, pace);
        if (bad != 0) {
            return refuse(bad);
        }
        int best = NONE;
        int fewest = timeOf(walks, hold, pace);
        for (int c = 1; c < now.yards; c++) {
            for (int e = c + 1; e < now.yards; e++) {
                int time = timeOver(holds, walks, hold, pace, c, e);
                if (time < fewest) {
                    fewest = time;
                    best = 100 * c + e;
                }
            }
        }
        return best;
    }

    // ---- The soonest ways

    public int soonest(int walks, int hold, int yard, int what) {
        int bad = orOther(firstOf(nobody(walks) || noYardNorAll(yard), low(hold, 1), high(hold, 1)), what, 1);
        if (bad != 0) {
            return refuse(bad);
        }
        int time = soonestOf(walks, hold);
        if (time >= NEVER || yard == -1) {
            return toldTime(time);
        }
        soonestWay.goesTo(yard, course, walk, hold);
        return what == 0 ? soonestWay.pace : soonestWay.rests;
    }

    public int lanes(int walks, int hold, int pace, int yard) {
        int bad = firstOf(nobody(walks) || noYardNorAll(yard), low(hold, pace), high(hold, pace));
        if (bad != 0) {
            return refuse(bad);
        }
        walk.starts(now, walks);
        int time = lanesWay.searches(now, walk, hold, pace);
        if (time >= NEVER || yard == -1) {
            return toldTime(time);
        }
        return lanesWay.laneOn(yard, now.lane, walk, hold, pace);
    }

    public int even(int walks, int hold, int what) {
        int bad = orOther(firstOf(nobody(walks), low(hold, 1), high(hold, 1)), what, 1);
        if (bad != 0) {
            return refuse(bad);
        }
        int fewest = NEVER;
        for (int pace = 1; pace <= MOST_PACE; pace++) {
            fewest = Math.min(fewest, timeOf(walks, hold, pace));
        }
        if (fewest >= NEVER) {
            return NONE;
        }
        int sooner = fewest - soonestOf(walks, hold);
        return what == 1 ? sooner : sooner <= 0 ? 1 : 0;
    }

    // ---- Several pairs

    public int heavy(int one, int other, int hold, int pace) {
        int bad = badTwo(one, other, hold, pace);
        if (bad != 0) {
            return FAR_OFF - refuse(bad);
        }
        boolean otherHolds = now.ofPerson(other, HEAVY) > now.ofPerson(one, HEAVY);
        int heavyHolds = timeOf(otherHolds ? one : other, hold, pace);
        int heavyWalks = timeOf(otherHolds ? other : one, hold, pace);
        return later(heavyHolds, heavyWalks);
    }

    public int pairs(int hold, int pace, int what) {
        int bad = orOther(firstOf(false, low(hold, pace), high(hold, pace)), what, 2);
        if (bad == 0 && (now.howMany < 2 || now.howMany % 2 != 0)) {
            bad = STATE;
        }
        if (bad != 0) {
            return refuse(bad);
        }
        timesOfAll(hold, pace);
        return what == 2 ? firstPair() : bestPairing(what == 1);
    }

    public int game(int a, int b, int c, int d, int hold, int pace) {
        int bad = firstOf(noFour(a, b, c, d), low(hold, pace), high(hold, pace));
        if (bad != 0) {
            return refuse(bad);
        }
        int firstIn0 = timeIn(0, b, hold, pace);
        int firstIn1 = timeIn(1, b, hold, pace);
        int otherIn0 = timeIn(0, d, hold, pace);
        int otherIn1 = timeIn(1, d, hold, pace);
        if (firstIn0 >= NEVER || firstIn1 >= NEVER || otherIn0 >= NEVER || otherIn1 >= NEVER) {
            return NONE;
        }
        for (int first = 0; first < LANES; first++) {
            for (int other = 0; other < LANES; other++) {
                boolean firstStays = staysIn(first, other, firstIn0, firstIn1);
                if (firstStays && staysIn(other, first, otherIn0, otherIn1)) {
                    return 10 * first + other;
                }
            }
        }
        return NONE;
    }

    public int catches(int a, int b, int c, int d, int pace, int t) {
        int bad = firstOf(noFour(a, b, c, d), low(0, pace) || t < 0, high(0, pace) || t > 999);
        if (bad != 0) {
            return refuse(bad);
        }
        course.takes(now, now.lane);
        walk.starts(now, b);
        otherWalk.starts(now, d);
        for (int yard = 0; yard < course.yards; yard++) {
            walk.goes(course, yard, 0, pace);
            otherWalk.goes(course, yard, 0, pace);
            if (!walk.never && t + walk.tenths <= otherWalk.time()) {
                return yard;
            }
        }
        return NONE;
    }

    public int ladder(int hold, int pace, int i) {
        int bad = firstOf(false, low(hold, pace) || i < 0, high(hold, pace));
        if (bad != 0) {
            return refuse(bad);
        }
        timesOfAll(hold, pace);
        for (int holds = 0; holds < now.howMany; holds++) {
            for (int walks = 0; walks < now.howMany; walks++) {
                if (holds != walks && times.get(walks) < NEVER && howManyAheadOf(holds, walks) == i) {
                    return 10 * holds + walks;
                }
            }
        }
        return NONE;
    }

    public int fair(int hold, int pace) {
        int bad = firstOf(false, low(hold, pace), high(hold, pace));
        if (bad != 0) {
            return refuse(bad);
        }
        timesOfAll(hold, pace);
        int best = NONE;
        int nearest = NEVER;
        for (int one = 0; one < now.howMany; one++) {
            for (int other = one + 1; other < now.howMany; other++) {
                boolean bothEnd = times.get(one) < NEVER && times.get(other) < NEVER;
                int apart = Math.abs(times.get(one) - times.get(other));
                if (bothEnd && apart < nearest) {
                    nearest = apart;
                    best = 10 * one + other;
                }
            }
        }
        return best;
    }

    public int team(int turn, int hold, int pace) {
        int bad = now.howMany < 3 ? STATE : firstOf(false, low(hold, pace) || turn < 1, high(hold, pace) || turn > 9);
        if (bad != 0) {
            return refuse(bad);
        }
        return toldTime(timeByTurns(turn, hold, pace));
    }

    public int bestTurn(int hold, int pace) {
        int bad = now.howMany < 3 ? STATE : firstOf(false, low(hold, pace), high(hold, pace));
        if (bad != 0) {
            return refuse(bad);
        }
        int best = NONE;
        int fewest = NEVER;
        for (int turn = 1; turn <= 9; turn++) {
            int time = timeByTurns(turn, hold, pace);
            if (time < fewest) {
                fewest = time;
                best = turn;
            }
        }
        return best;
    }

    // ---- Steering, a cup, laughing

    public int steers(int g, int what) {
        int bad = orOther(firstOf(false, g < 0, g > 5), what, 1);
        if (bad != 0) {
            return FAR_OFF - refuse(bad);
        }
        int farthest = farthestOff(g);
        return what == 0 ? farthest : offs.get(now.yards - 1);
    }

    public int straight(int e) {
        int bad = firstOf(false, e < 0, e > 99);
        if (bad != 0) {
            return refuse(bad);
        }
        for (int g = 5; g >= 0; g--) {
            if (farthestOff(g) <= e) {
                return g;
            }
        }
        return NONE;
    }

    public int cup(int f, int pace) {
        int bad = firstOf(false, low(0, pace) || f < 0, high(0, pace) || f > 60);
        if (bad != 0) {
            return refuse(bad);
        }
        return leftInCup(f, pace);
    }

    public int bestCup(int pace) {
        int bad = firstOf(false, low(0, pace), high(0, pace));
        if (bad != 0) {
            return refuse(bad);
        }
        int best = 0;
        int most = leftInCup(0, pace);
        for (int f = 1; f <= 60; f++) {
            int there = leftInCup(f, pace);
            if (there > most) {
                most = there;
                best = f;
            }
        }
        return best;
    }

    public int laughs(int k) {
        int bad = firstOf(false, k < 1, k > 20);
        if (bad != 0) {
            return refuse(bad);
        }
        return laughedTenths(k);
    }

    public int bestStop() {
        int best = 1;
        int fewest = laughedTenths(1);
        for (int k = 2; k <= 20; k++) {
            int tenths = laughedTenths(k);
            if (tenths < fewest) {
                fewest = tenths;
                best = k;
            }
        }
        return best;
    }

    // ---- The row: who pushed, times looked at

    public int row(int v) {
        int bad = firstOf(false, v < 0, v > 99 || howManyTold >= MOST_TOLD);
        if (bad != 0) {
            return refuse(bad);
        }
        told.put(howManyTold, v);
        howManyTold++;
        return howManyTold;
    }

    public int clear() {
        int before = howManyTold;
        howManyTold = 0;
        return before;
    }

    public int pushed(int walks) {
        int bad = nobody(walks) ? NOBODY : toldAreYards() ? 0 : STATE;
        if (bad != 0) {
            return refuse(bad);
        }
        int bits = 0;
        for (int pace = 1; pace <= MOST_PACE; pace++) {
            if (nosesAreAsTold(now.ofPerson(walks, HANDS), pace)) {
                bits |= 1 << pace;
            }
        }
        return bits;
    }

    public int whose(int pace) {
        int bad = firstOf(false, low(0, pace), high(0, pace));
        if (bad == 0 && !toldAreYards()) {
            bad = STATE;
        }
        if (bad != 0) {
            return refuse(bad);
        }
        int bits = 0;
        for (int hands = 1; hands <= MOST_HANDS; hands++) {
            if (nosesAreAsTold(hands, pace)) {
                bits |= 1 << hands;
            }
        }
        return bits;
    }

    public int judge(int hold, int pace) {
        int bad = firstOf(false, low(hold, pace), high(hold, pace));
        if (bad != 0) {
            return refuse(bad);
        }
        int wrong = firstNotAsTold(hold, pace);
        howManyTold = 0;
        return wrong;
    }

    // ---- A race that is otherwise than told

    public int inHer(int walks, int hold, int pace) {
        int bad = badOne(walks, hold, pace);
        if (bad != 0) {
            return refuse(bad);
        }
        course.takes(now, now.lane);
        walk.starts(now, walks);
        for (int yard = 0; yard < course.yards; yard++) {
            if (walk.left < walk.tires(course, yard, hold, pace)) {
                return yard;
            }
            walk.goes(course, yard, hold, pace);
        }
        return course.yards;
    }

    public int worst(int walks, int hold, int pace) {
        int bad = badOne(walks, hold, pace);
        if (bad != 0) {
            return refuse(bad);
        }
        int best = NONE;
        int fewest = timeOf(walks, hold, pace);
        for (int yard = 0; yard < course.yards; yard++) {
            int kind = course.kinds.get(yard);
            course.kinds.put(yard, PLAIN);
            walk.starts(now, walks);
            int time = walk.timeOver(course, hold, pace);
            course.kinds.put(yard, kind);
            if (time < fewest) {
                fewest = time;
                best = yard;
            }
        }
        return best;
    }

    public int handicap(int walks, int hold, int pace, int t) {
        int bad = firstOf(nobody(walks), low(hold, pace) || t < 0, high(hold, pace) || t > 9999);
        if (bad != 0) {
            return refuse(bad);
        }
        course.takes(now, now.lane);
        for (int arms = 1; arms <= MOST_ARMS; arms++) {
            walk.startsAs(arms, now.ofPerson(walks, HEAVY), now.ofPerson(walks, HANDS));
            if (walk.timeOver(course, hold, pace) <= t) {
                return arms;
            }
        }
        return NONE;
    }

    public int careful(int walks, int hold) {
        int bad = firstOf(nobody(walks), low(hold, 1), high(hold, 1));
        if (bad != 0) {
            return refuse(bad);
        }
        course.takes(now, now.lane);
        walk.starts(now, walks);
        for (int yard = 0; yard < course.yards; yard++) {
            int limit = Ground.limitOn(course.kinds.get(yard), walk.hands);
            walk.goes(course, yard, hold, Math.min(limit, MOST_PACE));
        }
        return toldTime(walk.time());
    }

    public int practice(int walks, int hold, int pace) {
        int bad = badOne(walks, hold, pace);
        if (bad != 0) {
            return refuse(bad);
        }
        int arms = now.ofPerson(walks, ARMS);
        int heavy = now.ofPerson(walks, HEAVY);
        int hands = now.ofPerson(walks, HANDS);
        int best = NONE;
        int fewest = timeOf(walks, hold, pace);
        walk.startsAs(Math.min(arms + 5, MOST_ARMS), heavy, hands);
        int stronger = walk.timeOver(course, hold, pace);
        if (stronger < fewest) {
            fewest = stronger;
            best = ARMS;
        }
        walk.startsAs(arms, Math.max(heavy - 1, 1), hands);
        int lighter = walk.timeOver(course, hold, pace);
        if (lighter < fewest) {
            fewest = lighter;
            best = HEAVY;
        }
        walk.startsAs(arms, heavy, Math.min(hands + 1, MOST_HANDS));
        int quicker = walk.timeOver(course, hold, pace);
        return quicker < fewest ? HANDS : best;
    }

    public int half(int walks, int hold, int pace) {
        int bad = badOne(walks, hold, pace);
        if (bad != 0) {
            return refuse(bad);
        }
        int whole = timeOf(walks, hold, pace);
        if (whole >= NEVER) {
            return NONE;
        }
        walk.starts(now, walks);
        for (int yard = 0; yard < course.yards; yard++) {
            walk.goes(course, yard, hold, pace);
            if (2 * walk.tenths >= whole) {
                return yard;
            }
        }
        return NONE;
    }

    public int turnedRound(int walks, int hold, int pace) {
        int bad = badOne(walks, hold, pace);
        if (bad != 0) {
            return refuse(bad);
        }
        course.takes(now, now.lane);
        walk.starts(now, walks);
        for (int yard = course.yards - 1; yard >= 0; yard--) {
            walk.goes(course, yard, hold, pace);
        }
        return toldTime(walk.time());
    }

    public int bestLane(int walks, int hold, int pace) {
        int bad = badOne(walks, hold, pace);
        if (bad != 0) {
            return refuse(bad);
        }
        int in0 = timeIn(0, walks, hold, pace);
        int in1 = timeIn(1, walks, hold, pace);
        if (in0 >= NEVER && in1 >= NEVER) {
            return NONE;
        }
        return in1 < in0 ? 1 : 0;
    }

    public int rain(int walks, int hold, int pace) {
        int bad = badOne(walks, hold, pace);
        if (bad != 0) {
            return FAR_OFF - refuse(bad);
        }
        int dry = timeOf(walks, hold, pace);
        for (int yard = 0; yard < course.yards; yard++) {
            if (course.kinds.get(yard) == PLAIN) {
                course.kinds.put(yard, WET);
            }
        }
        walk.starts(now, walks);
        return later(dry, walk.timeOver(course, hold, pace));
    }

    public int longest(int walks, int hold, int pace, int t) {
        int bad = firstOf(nobody(walks), low(hold, pace) || t < 0, high(hold, pace) || t > 9999);
        if (bad != 0) {
            return refuse(bad);
        }
        course.takes(now, now.lane);
        walk.starts(now, walks);
        for (int yard = 0; yard < course.yards; yard++) {
            walk.goes(course, yard, hold, pace);
            if (walk.time() > t) {
                return yard;
            }
        }
        return course.yards;
    }

    public int lots(int walks, int hold, int pace, int n, int z, int what) {
        int bad = orOther(firstOf(nobody(walks), low(hold, pace) || n < 1, high(hold, pace) || n > 20), what, 1);
        if (bad != 0) {
            return refuse(bad);
        }
        course.takes(now, now.lane);
        int seed = z;
        int all = 0;
        int nevers = 0;
        for (int i = 0; i < n; i++) {
            for (int yard = 0; yard < course.yards; yard++) {
                seed = seed * 1103515245 + 12345;
                course.figures.put(yard, (seed & 0x7fffffff) / 65536 % 10);
            }
            walk.starts(now, walks);
            int time = walk.timeOver(course, hold, pace);
            all += time >= NEVER ? LOT_NEVER_TENTHS : time;
            nevers += time >= NEVER ? 1 : 0;
        }
        return what == 0 ? all : nevers;
    }

    // ---- The image, counts

    public int image() {
        kept.becomes(now);
        isKept = true;
        return now.howMany;
    }

    public int restore() {
        if (!isKept) {
            return refuse(STATE);
        }
        now.becomes(kept);
        changes.forgets();
        return now.howMany;
    }

    public int count(int what) {
        switch (what) {
            case 0:
                return now.howMany;
            case 1:
                return now.yards;
            case 2:
                return now.lane;
            case 3:
                return now.allArms();
            case 4:
                return text.fed;
            case 5:
                return howManyTold;
            case 6:
                return changes.howMany;
            default:
                return what >= 11 && what <= 16 ? refusals.get(what - 10) : NONE;
        }
    }

    // ---- Refusals

    private int refuse(int number) {
        refusals.put(-number, refusals.get(-number) + 1);
        return number;
    }

    /** The first refusal that fits, in the order -1, -4, -6; 0 if none does. */
    private static int firstOf(boolean noSuch, boolean below, boolean above) {
        return noSuch ? NOBODY : below ? BELOW : above ? ROOM : 0;
    }

    private static int orOther(int bad, int what, int most) {
        return bad == 0 && isOther(what, most) ? OTHER : bad;
    }

    private static boolean isOther(int what, int most) {
        return what < 0 || what > most;
    }

    private static boolean low(int hold, int pace) {
        return hold < 0 || pace < 1;
    }

    private static boolean high(int hold, int pace) {
        return hold > MOST_HOLD || pace > MOST_PACE;
    }

    private boolean nobody(int person) {
        return person < 0 || person >= now.howMany;
    }

    private boolean noTwo(int one, int other) {
        return nobody(one) || nobody(other) || one == other;
    }

    private boolean noFour(int a, int b, int c, int d) {
        return noTwo(a, b) || noTwo(c, d) || a == c || a == d || b == c || b == d;
    }

    private boolean noYard(int yard) {
        return yard < 0 || yard >= now.yards;
    }

    /** Where -1 asks for the whole way. */
    private boolean noYardNorAll(int yard) {
        return yard != -1 && noYard(yard);
    }

    private boolean noGround(int lane, int yard) {
        return isOther(lane, LANES - 1) || noYard(yard);
    }

    private int badOne(int walks, int hold, int pace) {
        return firstOf(nobody(walks), low(hold, pace), high(hold, pace));
    }

    private int badTwo(int holds, int walks, int hold, int pace) {
        return firstOf(noTwo(holds, walks), low(hold, pace), high(hold, pace));
    }

    // ---- Times

    private static int toldTime(int time) {
        return time >= NEVER ? NONE : time;
    }

    /** By how many TENTHS the other is later than the one. */
    private static int later(int one, int other) {
        return one >= NEVER || other >= NEVER ? ONE_IS_NEVER : other - one;
    }

    /** A RACE in LANE; who holds makes no odds without a CHANGE. It leaves the course and the walk as they came out. */
    private int timeOf(int walks, int hold, int pace) {
        return timeIn(now.lane, walks, hold, pace);
    }

    private int timeIn(int lane, int walks, int hold, int pace) {
        course.takes(now, lane);
        walk.starts(now, walks);
        return walk.timeOver(course, hold, pace);
    }

    private void timesOfAll(int hold, int pace) {
        for (int walks = 0; walks < now.howMany; walks++) {
            times.put(walks, timeOf(walks, hold, pace));
        }
    }

    /** On the course as it is, CHANGED OVER ahead of c and ahead of e (a yard that is never come to: no CHANGE). */
    private int timeOver(int holds, int walks, int hold, int pace, int c, int e) {
        walk.starts(now, walks);
        for (int yard = 0; yard < course.yards; yard++) {
            if (yard == c) {
                walk.isTakenOver(now, holds);
            } else if (yard == e) {
                walk.isTakenOver(now, walks);
            }
            walk.goes(course, yard, hold, pace);
        }
        return walk.time();
    }

    private int timeByTurns(int turn, int hold, int pace) {
        if (turn < 1) {
            return NEVER;
        }
        course.takes(now, now.lane);
        walk.starts(now, 0);
        for (int yard = 0; yard < course.yards; yard++) {
            if (yard > 0 && yard % turn == 0) {
                walk.isTakenOver(now, yard / turn % 3);
            }
            walk.goes(course, yard, hold, pace);
        }
        return walk.time();
    }

    private int soonestOf(int walks, int hold) {
        course.takes(now, now.lane);
        walk.starts(now, walks);
        return soonestWay.searches(course, walk, hold);
    }

    // ---- Pairs and lanes

    /** Of the times of all: the first two of whom the lesser holds, with the fewest. */
    private int firstPair() {
        int best = NONE;
        int fewest = NEVER;
        for (int holds = 0; holds < now.howMany; holds++) {
            for (int walks = holds + 1; walks < now.howMany; walks++) {
                if (times.get(walks) < fewest) {
                    fewest = times.get(walks);
                    best = 10 * holds + walks;
                }
            }
        }
        return best;
    }

    private int bestPairing(boolean digits) {
        int best = NONE;
        int fewest = NEVER;
        int pairings = now.howMany == 2 ? 1 : now.howMany == 4 ? 3 : 15;
        for (int i = 0; i < pairings; i++) {
            int time = pairingOf(i, pairings, false);
            if (time < fewest) {
                fewest = time;
                best = i;
            }
        }
        if (best == NONE) {
            return NONE;
        }
        return digits ? pairingOf(best, pairings, true) : fewest;
    }

    /** Of the i-th pairing by its digits: these, or all its TENTHS. */
    private int pairingOf(int i, int pairings, boolean digits) {
        int free = (1 << now.howMany) - 1;
        int behind = pairings;
        int said = 0;
        int tenths = 0;
        for (int others = now.howMany - 1; others >= 1; others -= 2) {
            behind = behind / others;
            free = without(free, freeOf(free, 0));
            int walks = freeOf(free, behind < 1 ? 0 : i / behind % others);
            free = without(free, walks);
            said = 10 * said + walks;
            tenths += times.get(walks);
        }
        return digits ? said : tenths;
    }

    private static int without(int free, int person) {
        return free & ~(1 << person);
    }

    /** Of those who are free the n-th, the least being the 0-th. */
    private static int freeOf(int free, int n) {
        int ahead = 0;
        for (int person = 0; person < MOST_PEOPLE; person++) {
            if ((free >> person & 1) == 1) {
                if (ahead == n) {
                    return person;
                }
                ahead++;
            }
        }
        return 0;
    }

    private int howManyAheadOf(int holds, int walks) {
        int ahead = 0;
        for (int a = 0; a < now.howMany; a++) {
            for (int b = 0; b < now.howMany; b++) {
                if (a != b && isAhead(a, b, holds, walks)) {
                    ahead++;
                }
            }
        }
        return ahead;
    }

    private boolean isAhead(int a, int b, int holds, int walks) {
        if (times.get(b) != times.get(walks)) {
            return times.get(b) < times.get(walks);
        }
        return a != holds ? a < holds : b < walks;
    }

    /** Whether a pair in a LANE is not sooner in the other one, while the other pair stays. */
    private static boolean staysIn(int mine, int others, int in0, int in1) {
        int here = (mine == 0 ? in0 : in1) + (mine == others ? SAME_LANE_TENTHS : 0);
        int there = (mine == 0 ? in1 : in0) + (mine == others ? 0 : SAME_LANE_TENTHS);
        return here <= there;
    }

    // ---- Steering, a cup, laughing

    private int farthestOff(int g) {
        int off = 0;
        int turn = 1;
        int farthest = 0;
        for (int yard = 0; yard < now.yards; yard++) {
            off += turn;
            offs.put(yard, off);
            farthest = Math.max(farthest, Math.abs(off));
            int seen = yard < g ? 0 : offs.get(yard - g);
            if (seen > 0) {
                turn--;
            } else if (seen < 0) {
                turn++;
            }
        }
        return farthest;
    }

    private int leftInCup(int f, int pace) {
        int there = f;
        for (int yard = 0; yard < now.yards; yard++) {
            int spilt = pace * there / 60;
            if (now.kindOf(now.lane, yard) == BUMPS) {
                spilt = Math.min(2 * spilt, there);
            }
            there -= spilt;
        }
        return there;
    }

    private int laughedTenths(int k) {
        int laughing = 0;
        int tenths = 0;
        for (int yard = 0; yard < now.yards; yard++) {
            if (k > 0 && yard > 0 && yard % k == 0) {
                tenths += STOP_TENTHS;
                laughing = 0;
            }
            laughing++;
            tenths += laughing;
        }
        return tenths;
    }

    // ---- The row

    private boolean toldAreYards() {
        for (int i = 0; i < howManyTold; i++) {
            if (noYard(told.get(i)) || i > 0 && told.get(i) <= told.get(i - 1)) {
                return false;
            }
        }
        return true;
    }

    private boolean nosesAreAsTold(int hands, int pace) {
        int next = 0;
        for (int yard = 0; yard < now.yards; yard++) {
            boolean isTold = next < howManyTold && told.get(next) == yard;
            boolean isNose = pace > Ground.limitOn(now.kindOf(now.lane, yard), hands);
            if (isTold != isNose) {
                return false;
            }
            next += isTold ? 1 : 0;
        }
        return true;
    }

    private int firstNotAsTold(int hold, int pace) {
        for (int yard = 0; yard < howManyTold; yard++) {
            int tenths = Ground.tenthsOf(now.kindOf(now.lane, yard), now.figureOf(now.lane, yard), hold, pace);
            if (noYard(yard) || told.get(yard) != Math.min(tenths, 99)) {
                return yard;
            }
        }
        return NONE;
    }

    // ---- The classes inside

    /** A row of numbers whose every index is looked at, here and nowhere else: outside of it there is 0. */
    private static final class Cells {
        private final int[] cells;

        Cells(int size) {
            cells = new int[Math.max(size, 0)];
        }

        int get(int i) {
            return i >= 0 && i < cells.length ? cells[i] : 0;
        }

        void put(int i, int v) {
            if (i >= 0 && i < cells.length) {
                cells[i] = v;
            }
        }

        void becomes(Cells other) {
            for (int i = 0; i < cells.length; i++) {
                cells[i] = other.get(i);
            }
        }
    }

    /** What a yard of a KIND with a FIGURE is like. */
    private static final class Ground {

        static int loadOn(int kind, int figure, int heavy, int hold) {
            int plain = heavy * (4 - hold) / 2;
            int uphill = plain + figure;
            int wet = plain + 2;
            switch (kind) {
                case DOWNHILL:
                    return Math.max(plain - figure / 2, 1);
                case UPHILL:
                    return uphill;
                case WET:
                    return wet;
                case THISTLES:
                    return wet + 1;
                case BUMPS:
                    return 2 * uphill;
                default:
                    return plain;
            }
        }

        static int tenthsOf(int kind, int figure, int hold, int pace) {
            int plain = 30 - 3 * pace + 2 * hold;
            int uphill = plain + figure;
            int wet = plain + 3;
            switch (kind) {
                case DOWNHILL:
                    return Math.max(plain - 2, 1);
                case UPHILL:
                    return uphill;
                case WET:
                    return wet;
                case THISTLES:
                    return wet + figure;
                case BUMPS:
                    return uphill + 5;
                default:
                    return plain;
            }
        }

        static int limitOn(int kind, int hands) {
            switch (kind) {
                case DOWNHILL:
                    return hands + 2;
                case UPHILL:
                case WET:
                case THISTLES:
                    return Math.max(hands - 1, 1);
                case BUMPS:
                    return Math.max(hands - 2, 1);
                default:
                    return hands;
            }
        }
    }

    /** All that there is of I, but letters: the YARDS of both LANES, the LANE, the PEOPLE. */
    private static final class Field {
        int yards = 10;
        int lane = 0;
        int howMany = 0;
        final Cells kinds = new Cells(LANES * MOST_YARDS);
        final Cells figures = new Cells(LANES * MOST_YARDS);
        final Cells people = new Cells(FIGURES_OF_ONE * MOST_PEOPLE);

        static int placeOf(int lane, int yard) {
            return MOST_YARDS * lane + yard;
        }

        static int mostOf(int what) {
            return what == ARMS ? MOST_ARMS : what == HEAVY ? MOST_HEAVY : MOST_HANDS;
        }

        int kindOf(int lane, int yard) {
            return kinds.get(placeOf(lane, yard));
        }

        int figureOf(int lane, int yard) {
            return figures.get(placeOf(lane, yard));
        }

        void makes(int lane, int yard, int kind, int figure) {
            kinds.put(placeOf(lane, yard), kind);
            figures.put(placeOf(lane, yard), figure);
        }

        int ofPerson(int person, int what) {
            return people.get(FIGURES_OF_ONE * person + what);
        }

        void oneMore(int arms, int heavy, int hands) {
            people.put(FIGURES_OF_ONE * howMany + ARMS, arms);
            people.put(FIGURES_OF_ONE * howMany + HEAVY, heavy);
            people.put(FIGURES_OF_ONE * howMany + HANDS, hands);
            howMany++;
        }

        int allArms() {
            int all = 0;
            for (int person = 0; person < howMany; person++) {
                all += ofPerson(person, ARMS);
            }
            return all;
        }

        void becomes(Field other) {
            yards = other.yards;
            lane = other.lane;
            howMany = other.howMany;
            kinds.becomes(other.kinds);
            figures.becomes(other.figures);
            people.becomes(other.people);
        }
    }

    /** What can be TAKEN BACK, the oldest first. */
    private static final class Changes {
        static final int OF_GROUND = 0;
        static final int OF_PERSON = 1;
        static final int OF_LANE = 2;

        int howMany = 0;
        final Cells sorts = new Cells(MOST_CHANGES);
        final Cells places = new Cells(MOST_CHANGES);
        final Cells befores = new Cells(MOST_CHANGES);

        void forgets() {
            howMany = 0;
        }

        void adds(int sort, int place, int before) {
            if (howMany >= MOST_CHANGES) {
                losesOldest();
            }
            sorts.put(howMany, sort);
            places.put(howMany, place);
            befores.put(howMany, before);
            howMany++;
        }

        private void losesOldest() {
            for (int i = 1; i < MOST_CHANGES; i++) {
                sorts.put(i - 1, sorts.get(i));
                places.put(i - 1, places.get(i));
                befores.put(i - 1, befores.get(i));
            }
            howMany = MOST_CHANGES - 1;
        }

        void takesBack(Field field) {
            if (howMany < 1) {
                return;
            }
            howMany--;
            int place = places.get(howMany);
            int before = befores.get(howMany);
            switch (sorts.get(howMany)) {
                case OF_GROUND:
                    field.kinds.put(place, before / 10);
                    field.figures.put(place, before % 10);
                    break;
                case OF_PERSON:
                    field.people.put(place, before);
                    break;
                default:
                    field.lane = before;
                    break;
            }
        }
    }

    /** The letters in which a FIELD is told. */
    private static final class Text {
        static final int NO_FAULT = -1;

        int fed = 0;
        final Cells letters = new Cells(MOST_LETTERS);

        void adds(int letter) {
            letters.put(fed, letter);
            fed++;
        }

        /** All STATEMENTS come into the field, and how many they are; or the FAULT, and the field is worth nothing. */
        int tells(Field field) {
            int senseless = firstWithoutSense();
            if (senseless != NO_FAULT) {
                return -1000 - senseless;
            }
            int statements = 0;
            int from = 0;
            for (int place = 0; place < fed; place++) {
                if (letters.get(place) == ';') {
                    if (!comesInto(field, from)) {
                        return -2000 - from;
                    }
                    statements++;
                    from = place + 1;
                }
            }
            return statements;
        }

        private int firstWithoutSense() {
            // How many digits are lacking still; below 0 between two STATEMENTS.
            int lacking = -1;
            for (int place = 0; place < fed; place++) {
                int letter = letters.get(place);
                if (lacking < 0) {
                    lacking = digitsBehind(letter);
                    if (lacking < 0) {
                        return place;
                    }
                } else if (lacking > 0) {
                    if (letter < '0' || letter > '9') {
                        return place;
                    }
                    lacking--;
                } else if (letter == ';') {
                    lacking = -1;
                } else {
                    return place;
                }
            }
            return lacking >= 0 || fed == 0 ? fed : NO_FAULT;
        }

        private static int digitsBehind(int letter) {
            switch (letter) {
                case 'n':
                    return 2;
                case 'y':
                    return 5;
                case 'p':
                    return 4;
                case 'l':
                    return 1;
                default:
                    return -1;
            }
        }

        private boolean comesInto(Field field, int from) {
            switch (letters.get(from)) {
                case 'n':
                    return yardsCome(field, twoDigits(from + 1));
                case 'y':
                    return groundComes(field, from);
                case 'p':
                    return personComes(field, twoDigits(from + 1), digit(from + 3), digit(from + 4));
                default:
                    return laneComes(field, digit(from + 1));
            }
        }

        private static boolean yardsCome(Field field, int yards) {
            if (yards < 1 || yards > MOST_YARDS) {
                return false;
            }
            field.yards = yards;
            return true;
        }

        private boolean groundComes(Field field, int from) {
            int lane = digit(from + 1);
            int yard = twoDigits(from + 2);
            int kind = digit(from + 4);
            if (lane >= LANES || yard >= field.yards || kind > BUMPS) {
                return false;
            }
            field.makes(lane, yard, kind, digit(from + 5));
            return true;
        }

        private static boolean personComes(Field field, int arms, int heavy, int hands) {
            if (field.howMany >= MOST_PEOPLE) {
                return false;
            }
            if (arms < 1 || arms > MOST_ARMS || heavy < 1 || hands < 1) {
                return false;
            }
            field.oneMore(arms, heavy, hands);
            return true;
        }

        private static boolean laneComes(Field field, int lane) {
            if (lane >= LANES) {
                return false;
            }
            field.lane = lane;
            return true;
        }

        private int digit(int place) {
            return letters.get(place) - '0';
        }

        private int twoDigits(int place) {
            return 10 * digit(place) + digit(place + 1);
        }
    }

    /** The YARDS of one LANE, for a call to change as it likes. */
    private static final class Course {
        int yards = 0;
        final Cells kinds = new Cells(MOST_YARDS);
        final Cells figures = new Cells(MOST_YARDS);

        void takes(Field field, int lane) {
            yards = field.yards;
            for (int yard = 0; yard < yards; yard++) {
                kinds.put(yard, field.kindOf(lane, yard));
                figures.put(yard, field.figureOf(lane, yard));
            }
        }
    }

    /** A RACE under way: who walks in it, and what has come of it so far. */
    private static final class Walk {
        int arms = 0;
        int heavy = 0;
        int hands = 0;
        int left = 0;
        int tenths = 0;
        int noses = 0;
        int rests = 0;
        boolean never = false;

        void starts(Field field, int person) {
            startsAs(field.ofPerson(person, ARMS), field.ofPerson(person, HEAVY), field.ofPerson(person, HANDS));
        }

        void startsAs(int itsArms, int itsHeavy, int itsHands) {
            arms = itsArms;
            heavy = itsHeavy;
            hands = itsHands;
            noses = 0;
            rests = 0;
            goesOnWith(arms);
        }

        /** As if she came here with so much LEFT, no TENTHS having gone by. */
        void goesOnWith(int itsLeft) {
            left = itsLeft;
            tenths = 0;
            never = false;
        }

        void isTakenOver(Field field, int person) {
            arms = field.ofPerson(person, ARMS);
            heavy = field.ofPerson(person, HEAVY);
            hands = field.ofPerson(person, HANDS);
            left = arms;
            tenths += CHANGE_TENTHS;
        }

        int tires(Course course, int yard, int hold, int pace) {
            return Ground.loadOn(course.kinds.get(yard), course.figures.get(yard), heavy, hold) + pace;
        }

        void goes(Course course, int yard, int hold, int pace) {
            int kind = course.kinds.get(yard);
            int figure = course.figures.get(yard);
            int tires = Ground.loadOn(kind, figure, heavy, hold) + pace;
            if (never || arms < tires) {
                never = true;
                return;
            }
            for (int i = 0; i < MOST_RESTS && left < tires; i++) {
                rests++;
                tenths += REST_TENTHS;
                left = Math.min(left + 10, arms);
            }
            left -= tires;
            tenths += Ground.tenthsOf(kind, figure, hold, pace);
            if (pace > Ground.limitOn(kind, hands)) {
                noses++;
                tenths += NOSE_TENTHS;
                left = Math.min(left + 5, arms);
            }
        }

        int timeOver(Course course, int hold, int pace) {
            for (int yard = 0; yard < course.yards; yard++) {
                goes(course, yard, hold, pace);
            }
            return time();
        }

        int time() {
            return never ? NEVER : tenths;
        }
    }

    /** SOONEST: from the last yard back, for each LEFT ahead of a yard, the fewest TENTHS from there on. */
    private static final class SoonestWay {
        /** Of the yard that was gone to last. */
        int pace = 1;
        int rests = 0;

        private final Cells fewest = new Cells(MOST_YARDS * LEFTS);

        private static int placeOf(int yard, int left) {
            return LEFTS * yard + left;
        }

        int searches(Course course, Walk walk, int hold) {
            for (int yard = course.yards - 1; yard >= 0; yard--) {
                // Downward, since the TENTHS of one who has rested are wanted for one who has not.
                for (int left = walk.arms; left >= 0; left--) {
                    int time = Math.min(goingAt(course, walk, yard, left, hold), resting(walk, yard, left));
                    fewest.put(placeOf(yard, left), Math.min(time, NEVER));
                }
            }
            return fewest.get(placeOf(0, walk.arms));
        }

        /** The first of the soonest ways, up to a yard: its PACE there and the RESTS ahead of it. */
        void goesTo(int yard, Course course, Walk walk, int hold) {
            int left = walk.arms;
            for (int at = 0; at <= yard; at++) {
                rests = 0;
                for (int i = 0; i < MOST_RESTS && fewest.get(placeOf(at, left)) < goingAt(course, walk, at, left, hold); i++) {
                    rests++;
                    left = Math.min(left + 10, walk.arms);
                }
                pace = leastPaceAt(course, walk, at, left, hold);
                timeWith(course, walk, at, left, hold, pace);
                left = walk.left;
            }
        }

        private int resting(Walk walk, int yard, int left) {
            if (left >= walk.arms) {
                return NEVER;
            }
            return REST_TENTHS + fewest.get(placeOf(yard, Math.min(left + 10, walk.arms)));
        }

        private int goingAt(Course course, Walk walk, int yard, int left, int hold) {
            int best = NEVER;
            for (int p = 1; p <= MOST_PACE; p++) {
                best = Math.min(best, timeWith(course, walk, yard, left, hold, p));
            }
            return best;
        }

        private int leastPaceAt(Course course, Walk walk, int yard, int left, int hold) {
            int best = fewest.get(placeOf(yard, left));
            for (int p = 1; p < MOST_PACE; p++) {
                if (timeWith(course, walk, yard, left, hold, p) == best) {
                    return p;
                }
            }
            return MOST_PACE;
        }

        /** From here on, going this yard without a REST ahead of it; the walk is then behind it. */
        private int timeWith(Course course, Walk walk, int yard, int left, int hold, int p) {
            if (left < walk.tires(course, yard, hold, p)) {
                return NEVER;
            }
            walk.goesOnWith(left);
            walk.goes(course, yard, hold, p);
            int behind = yard + 1 < course.yards ? fewest.get(placeOf(yard + 1, walk.left)) : 0;
            return Math.min(walk.tenths + behind, NEVER);
        }
    }

    /** LANES: from the last yard back, for each LANE and LEFT, the fewest TENTHS if this yard is gone in it. */
    private static final class LanesWay {
        private final Course in0 = new Course();
        private final Course in1 = new Course();
        private final Cells fewest = new Cells(MOST_YARDS * LANES * LEFTS);

        private static int placeOf(int yard, int lane, int left) {
            return LEFTS * (LANES * yard + lane) + left;
        }

        int searches(Field field, Walk walk, int hold, int pace) {
            in0.takes(field, 0);
            in1.takes(field, 1);
            for (int yard = field.yards - 1; yard >= 0; yard--) {
                for (int left = 0; left <= walk.arms; left++) {
                    fewest.put(placeOf(yard, 0, left), goingIn(0, walk, yard, left, hold, pace));
                    fewest.put(placeOf(yard, 1, left), goingIn(1, walk, yard, left, hold, pace));
                }
            }
            return soonestFrom(0, field.lane, walk.arms);
        }

        /** The LANE of a yard in the first of the soonest ways, from a LANE at the start. */
        int laneOn(int yard, int from, Walk walk, int hold, int pace) {
            int lane = from;
            int left = walk.arms;
            for (int at = 0; at <= yard; at++) {
                int staying = fewest.get(placeOf(at, lane, left));
                if (OTHER_LANE_TENTHS + fewest.get(placeOf(at, 1 - lane, left)) < staying) {
                    lane = 1 - lane;
                }
                walk.goesOnWith(left);
                walk.goes(courseIn(lane), at, hold, pace);
                left = walk.left;
            }
            return lane;
        }

        private Course courseIn(int lane) {
            return lane == 0 ? in0 : in1;
        }

        private int goingIn(int lane, Walk walk, int yard, int left, int hold, int pace) {
            walk.goesOnWith(left);
            walk.goes(courseIn(lane), yard, hold, pace);
            return Math.min(walk.time() + soonestFrom(yard + 1, lane, walk.left), NEVER);
        }

        private int soonestFrom(int yard, int lane, int left) {
            if (yard >= in0.yards) {
                return 0;
            }
            int changing = OTHER_LANE_TENTHS + fewest.get(placeOf(yard, 1 - lane, left));
            return Math.min(fewest.get(placeOf(yard, lane, left)), changing);
        }
    }
}
