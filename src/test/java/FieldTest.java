/** Promises 1 to 12 and 53 to 55: the field, the people, letters, what is taken back, the image, counts. */
public final class FieldTest {
    private static final Due DUE = new Due("FieldTest");

    public static void main(String[] args) {
        newObject();
        feeds();
        lettersWithoutSense();
        statementsNotAsTheyMustBe();
        fieldsCome();
        yardsAndGround();
        people();
        takenBack();
        whatLeavesNothing();
        feels();
        image();
        counts();
        DUE.end();
    }

    private static void newObject() {
        HandsForAWheel x = new HandsForAWheel();
        int[] counts = {0, 10, 0, 0, 0, 0, 0};
        for (int what = 0; what < counts.length; what++) {
            DUE.is("new: count " + what, x.count(what), counts[what]);
        }
        for (int lane = 0; lane < 2; lane++) {
            for (int yard = 0; yard < 10; yard++) {
                DUE.is("new: kind", x.ground(lane, yard, 0), 0);
                DUE.is("new: figure", x.ground(lane, yard, 1), 0);
            }
        }
        DUE.is("new: yard 10", x.ground(0, 10, 0), -1);
        DUE.is("new: nobody", x.one(0, 0), -1);
        DUE.is("new: nothing to take back", x.back(), -3);
        DUE.is("new: no image", x.restore(), -3);
        DUE.is("new: no row", x.clear(), 0);
    }

    private static void feeds() {
        HandsForAWheel x = new HandsForAWheel();
        DUE.is("feed 0", x.feed(0), 1);
        DUE.is("feed 255", x.feed(255), 2);
        DUE.is("feed -1", x.feed(-1), -4);
        DUE.is("feed 256", x.feed(256), -6);
        DUE.is("feed least", x.feed(Integer.MIN_VALUE), -4);
        DUE.is("feed greatest", x.feed(Integer.MAX_VALUE), -6);
        for (int i = 3; i <= 96; i++) {
            DUE.is("feed many", x.feed('n'), i);
        }
        DUE.is("feed the 97th", x.feed('n'), -6);
        DUE.is("feed the 97th below", x.feed(-1), -4);
        DUE.is("96 letters", x.count(4), 96);
        DUE.is("field of no sense", x.field(), -1000);
        DUE.is("no letters more", x.count(4), 0);
        DUE.is("feed anew", x.feed('n'), 1);
    }

    private static void lettersWithoutSense() {
        HandsForAWheel x = new HandsForAWheel();
        DUE.is("nothing", x.field(), -1000);
        String[] texts = {"n", "n1", "n10", "x", "N10;", ";", "n1;", "n10x", "n10;;", "n10;p", "l", "l0", "lx;", "l0;l0",
            "p1011", "p101;", "p10111;", "y0000;", "y00000", "y0000:;", "n 5;", "n+5;", "n10; l0;", "n00;x", "l2;y"};
        int[] places = {1, 2, 3, 0, 0, 0, 2, 3, 4, 5, 1, 2, 1, 5, 5, 4, 5, 5, 6, 5, 1, 1, 4, 4, 4};
        for (int i = 0; i < texts.length; i++) {
            DUE.is("field " + texts[i], Due.field(x, texts[i]), -1000 - places[i]);
            DUE.is("no letters after " + texts[i], x.count(4), 0);
        }
        StringBuilder full = new StringBuilder();
        for (int i = 0; i < 15; i++) {
            full.append("p1011;");
        }
        DUE.is("96 letters, one lacking", Due.field(x, full + "y00000"), -1096);
        DUE.is("a fault counts nothing", x.count(11) + x.count(12) + x.count(13) + x.count(14) + x.count(16), 0);
        DUE.is("nobody came", x.count(0), 0);
    }

    private static void statementsNotAsTheyMustBe() {
        String[] texts = {"n00;", "n21;", "n99;", "l2;", "l9;", "p0011;", "p6111;", "p1001;", "p1010;", "y20000;",
            "y00060;", "y01000;", "l0;n21;", "n05;y00500;", "y01000;n20;", "n05;n06;n05;y10500;", "l1;l2;n00;"};
        int[] places = {0, 0, 0, 0, 0, 0, 0, 0, 0, 0, 0, 0, 3, 4, 0, 12, 3};
        for (int i = 0; i < texts.length; i++) {
            HandsForAWheel x = new HandsForAWheel();
            x.lane(1);
            DUE.is("field " + texts[i], Due.field(x, texts[i]), -2000 - places[i]);
            DUE.is("yards after " + texts[i], x.count(1), 10);
            DUE.is("lane after " + texts[i], x.count(2), 1);
            DUE.is("people after " + texts[i], x.count(0), 0);
            DUE.is("letters after " + texts[i], x.count(4), 0);
            DUE.is("what can be taken back after " + texts[i], x.count(6), 1);
        }
        HandsForAWheel x = Due.of("p1011;p1011;p1011;p1011;");
        DUE.is("no room", Due.field(x, "p1111;n03;p1211;p1311;"), -2016);
        DUE.is("none of them came", x.count(0), 4);
        DUE.is("nor the yards", x.count(1), 10);
        DUE.is("room for two", Due.field(x, "p1111;p1211;"), 2);
        DUE.is("all came", x.count(0), 6);
        DUE.is("no room at all", Due.field(x, "n03;p1111;"), -2004);
    }

    private static void fieldsCome() {
        HandsForAWheel x = new HandsForAWheel();
        DUE.is("a field", Due.field(x, "n20;y11959;l1;p6099;p0111;"), 5);
        DUE.is("its yards", x.count(1), 20);
        DUE.is("its lane", x.count(2), 1);
        DUE.is("its kind", x.ground(1, 19, 0), 5);
        DUE.is("its figure", x.ground(1, 19, 1), 9);
        DUE.is("the other lane", x.ground(0, 19, 0), 0);
        DUE.is("its people", x.count(0), 2);
        DUE.is("arms", x.one(0, 0), 60);
        DUE.is("heavy", x.one(0, 1), 9);
        DUE.is("hands", x.one(0, 2), 9);
        DUE.is("arms of the other", x.one(1, 0), 1);
        DUE.is("fewer yards", Due.field(x, "n01;"), 1);
        DUE.is("no such yard now", x.ground(1, 19, 0), -1);
        DUE.is("a yard that is not there", Due.field(x, "y00100;"), -2000);
        DUE.is("more yards again", Due.field(x, "n20;"), 1);
        DUE.is("it stayed as it was", x.ground(1, 19, 0), 5);
        DUE.is("and its figure", x.ground(1, 19, 1), 9);
        DUE.is("more and set", Due.field(x, "n10;n12;y01134;"), 3);
        DUE.is("the kind", x.ground(0, 11, 0), 3);
    }

    private static void yardsAndGround() {
        HandsForAWheel x = new HandsForAWheel();
        DUE.is("yard", x.yard(1, 9, 5, 9), 0);
        DUE.is("yard again", x.yard(1, 9, 2, 3), 59);
        DUE.is("yard once more", x.yard(1, 9, 0, 0), 23);
        DUE.is("no lane", x.yard(2, 0, 0, 0), -1);
        DUE.is("no lane below", x.yard(-1, 0, 0, 0), -1);
        DUE.is("no yard", x.yard(0, 10, 6, 0), -1);
        DUE.is("no yard below", x.yard(0, -1, 0, -1), -1);
        DUE.is("no kind", x.yard(0, 0, 6, -1), -2);
        DUE.is("no kind below", x.yard(0, 0, -1, 10), -2);
        DUE.is("figure below", x.yard(0, 0, 0, -1), -4);
        DUE.is("figure above", x.yard(0, 0, 0, 10), -6);
        DUE.is("nothing changed", x.ground(0, 0, 0) + x.ground(0, 0, 1), 0);
        DUE.is("ground of no lane", x.ground(-1, 0, 0), -1);
        DUE.is("ground of no lane", x.ground(2, 0, 7), -1);
        DUE.is("ground of no yard", x.ground(0, -1, 0), -1);
        DUE.is("ground of other", x.ground(0, 0, 2), -2);
        DUE.is("ground of other below", x.ground(0, 0, -1), -2);
        DUE.is("yards 20", x.yards(20), 10);
        DUE.is("yards 1", x.yards(1), 20);
        DUE.is("yards 0", x.yards(0), -4);
        DUE.is("yards 21", x.yards(21), -6);
        DUE.is("yards still", x.count(1), 1);
        DUE.is("lane 1", x.lane(1), 0);
        DUE.is("lane 1 again", x.lane(1), 1);
        DUE.is("lane 2", x.lane(2), -1);
        DUE.is("lane -1", x.lane(-1), -1);
        DUE.is("lane 0", x.lane(0), 1);
    }

    private static void people() {
        HandsForAWheel x = new HandsForAWheel();
        DUE.is("comes below", x.comes(0, 1, 1), -4);
        DUE.is("comes below and above", x.comes(61, 0, 1), -4);
        DUE.is("comes below", x.comes(1, 1, 0), -4);
        DUE.is("comes above", x.comes(61, 1, 1), -6);
        DUE.is("comes above", x.comes(60, 10, 1), -6);
        DUE.is("comes above", x.comes(60, 9, 10), -6);
        for (int i = 0; i < 6; i++) {
            DUE.is("comes", x.comes(60 - i, 9, 1 + i), i);
        }
        DUE.is("the seventh", x.comes(1, 1, 1), -6);
        DUE.is("the seventh below", x.comes(1, 0, 1), -4);
        DUE.is("arms", x.one(5, 0), 55);
        DUE.is("heavy", x.one(5, 1), 9);
        DUE.is("hands", x.one(5, 2), 6);
        DUE.is("nobody", x.one(6, 3), -1);
        DUE.is("nobody below", x.one(-1, 0), -1);
        DUE.is("other", x.one(0, 3), -2);
        DUE.is("other below", x.one(0, -1), -2);
        DUE.is("person", x.person(2, 0, 1), 58);
        DUE.is("person again", x.person(2, 0, 60), 1);
        DUE.is("heavier", x.person(2, 1, 1), 9);
        DUE.is("quicker", x.person(2, 2, 9), 3);
        DUE.is("person nobody", x.person(6, 3, 0), -1);
        DUE.is("person other", x.person(0, 3, 0), -2);
        DUE.is("person below", x.person(0, 0, 0), -4);
        DUE.is("arms above", x.person(0, 0, 61), -6);
        DUE.is("heavy above", x.person(0, 1, 10), -6);
        DUE.is("hands above", x.person(0, 2, 10), -6);
        DUE.is("all arms", x.count(3), 60 + 59 + 60 + 57 + 56 + 55);
    }

    private static void takenBack() {
        HandsForAWheel x = Due.of("p2045;");
        x.yard(0, 3, 4, 7);
        x.yard(0, 3, 1, 2);
        x.person(0, 1, 9);
        x.lane(1);
        x.lane(1);
        DUE.is("five can be", x.count(6), 5);
        DUE.is("a refused one is none", x.lane(2), -1);
        DUE.is("five still", x.count(6), 5);
        DUE.is("back to lane 1", x.back(), 4);
        DUE.is("lane 1", x.count(2), 1);
        DUE.is("back to lane 0", x.back(), 3);
        DUE.is("lane 0", x.count(2), 0);
        DUE.is("back: heavy", x.back(), 2);
        DUE.is("heavy", x.one(0, 1), 4);
        DUE.is("back: the yard", x.back(), 1);
        DUE.is("its kind", x.ground(0, 3, 0), 4);
        DUE.is("its figure", x.ground(0, 3, 1), 7);
        DUE.is("back: the plain yard", x.back(), 0);
        DUE.is("its kind", x.ground(0, 3, 0), 0);
        DUE.is("its figure", x.ground(0, 3, 1), 0);
        DUE.is("none", x.back(), -3);
        x.person(0, 0, 11);
        x.lane(1);
        x.person(0, 2, 8);
        x.yard(1, 9, 5, 9);
        x.yard(0, 0, 3, 3);
        x.person(0, 1, 7);
        x.lane(0);
        x.yard(1, 9, 4, 2);
        x.person(0, 0, 12);
        x.person(0, 2, 9);
        for (int left = 7; left >= 0; left--) {
            DUE.is("back of many sorts", x.back(), left);
        }
        DUE.is("the second was too old", x.count(2), 1);
        DUE.is("the first, too", x.one(0, 0), 11);
        DUE.is("hands", x.one(0, 2), 5);
        DUE.is("heavy", x.one(0, 1), 4);
        DUE.is("kinds", 10 * x.ground(1, 9, 0) + x.ground(0, 0, 0), 0);
        DUE.is("figures", 10 * x.ground(1, 9, 1) + x.ground(0, 0, 1), 0);
        x.lane(0);
        x.person(0, 0, 20);
        for (int arms = 21; arms <= 30; arms++) {
            x.person(0, 0, arms);
        }
        DUE.is("8 at most", x.count(6), 8);
        for (int left = 7; left >= 0; left--) {
            DUE.is("back", x.back(), left);
        }
        DUE.is("the older ones no more", x.one(0, 0), 22);
        DUE.is("none", x.back(), -3);
    }

    private static void whatLeavesNothing() {
        HandsForAWheel x = Due.of("p2045;p3063;");
        x.image();
        x.lane(1);
        x.feed('x');
        x.field();
        x.row(3);
        x.clear();
        x.image();
        x.race(0, 1, 0, 1, 0);
        DUE.is("nothing of I changed", x.count(6), 1);
        x.comes(1, 1, 1);
        DUE.is("comes leaves none", x.back(), -3);
        x.lane(1);
        x.comes(0, 1, 1);
        DUE.is("a refused one leaves them", x.count(6), 1);
        x.yards(5);
        DUE.is("yards leaves none", x.count(6), 0);
        x.lane(1);
        Due.field(x, "p1011;");
        DUE.is("field leaves none", x.count(6), 0);
        x.lane(1);
        x.restore();
        DUE.is("restore leaves none", x.count(6), 0);
    }

    private static void feels() {
        HandsForAWheel x = Due.of("p2053;p3011;y00015;y00125;y00235;y00345;y00455;y00519;");
        int[] loads = {5, 12, 9, 10, 24};
        int[] tenths = {18, 25, 23, 28, 30};
        int[] limits = {5, 2, 2, 2, 1};
        for (int yard = 0; yard < 5; yard++) {
            DUE.is("load of yard " + yard, x.feels(yard, 0, 1, 4, 0), loads[yard]);
            DUE.is("tenths of yard " + yard, x.feels(yard, 0, 1, 4, 1), tenths[yard]);
            DUE.is("limit of yard " + yard, x.feels(yard, 0, 1, 4, 2), limits[yard]);
        }
        DUE.is("plain load", x.feels(9, 0, 1, 4, 0), 7);
        DUE.is("plain tenths", x.feels(9, 0, 1, 4, 1), 20);
        DUE.is("plain limit", x.feels(9, 0, 1, 4, 2), 3);
        DUE.is("ankle", x.feels(9, 0, 0, 9, 0), 10);
        DUE.is("knee", x.feels(9, 0, 2, 9, 0), 5);
        DUE.is("ankle at 9", x.feels(9, 0, 0, 9, 1), 3);
        DUE.is("knee at 9", x.feels(9, 0, 2, 9, 1), 7);
        DUE.is("downhill at 9", x.feels(0, 0, 0, 9, 1), 1);
        DUE.is("downhill load 1 at least", x.feels(5, 1, 2, 9, 0), 1);
        DUE.is("hands 1 uphill", x.feels(1, 1, 0, 1, 2), 1);
        DUE.is("hands 1 bumps", x.feels(4, 1, 0, 1, 2), 1);
        DUE.is("hands 1 downhill", x.feels(0, 1, 0, 1, 2), 3);
        x.lane(1);
        DUE.is("plain in the other lane", x.feels(1, 0, 1, 4, 0), 7);
    }

    private static void image() {
        HandsForAWheel x = Due.of("n12;y11134;p2045;l1;");
        x.row(4);
        x.feed('n');
        x.lane(2);
        DUE.is("image", x.image(), 1);
        Due.field(x, "15;y11100;p1011;p1211;l0;n03;");
        x.person(0, 0, 1);
        x.row(5);
        x.feed('l');
        x.lane(3);
        DUE.is("restore", x.restore(), 1);
        DUE.is("yards", x.count(1), 12);
        DUE.is("lane", x.count(2), 1);
        DUE.is("kind", x.ground(1, 11, 0), 3);
        DUE.is("figure", x.ground(1, 11, 1), 4);
        DUE.is("arms", x.one(0, 0), 20);
        DUE.is("the row stays", x.count(5), 2);
        DUE.is("the letters stay", x.count(4), 1);
        DUE.is("the refusals stay", x.count(11), 2);
        x.comes(9, 9, 9);
        DUE.is("restore again", x.restore(), 1);
        x.yards(3);
        DUE.is("image anew", x.image(), 1);
        x.yards(9);
        x.restore();
        DUE.is("the newer image", x.count(1), 3);
        x.yards(12);
        DUE.is("yards beyond were in it", x.ground(1, 11, 1), 4);
    }

    private static void counts() {
        HandsForAWheel x = Due.of("p2045;p3063;n07;l1;");
        x.feed('n');
        x.row(9);
        x.row(9);
        x.lane(0);
        x.lane(1);
        x.lane(1);
        x.lane(7);
        x.one(0, 9);
        x.one(0, 9);
        x.restore();
        x.yards(0);
        x.yards(-1);
        x.yards(-2);
        x.yards(99);
        int[] whats = {-1, 0, 1, 2, 3, 4, 5, 6, 7, 10, 11, 12, 13, 14, 15, 16, 17, Integer.MAX_VALUE, Integer.MIN_VALUE};
        int[] wants = {-9, 2, 7, 1, 50, 1, 2, 3, -9, -9, 1, 2, 1, 3, 0, 1, -9, -9, -9};
        for (int i = 0; i < whats.length; i++) {
            DUE.is("count " + whats[i], x.count(whats[i]), wants[i]);
        }
    }
}
