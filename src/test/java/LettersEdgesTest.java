/**
 * Promises 2 and 3 and a FIELD told in letters: no letters and 96, every place of every STATEMENT, the least and the
 * greatest number of each. All reckoned by hand.
 */
public final class LettersEdgesTest {
    private static final Due DUE = new Due("LettersEdgesTest");

    private static final String[] STATEMENTS = {"n20;", "y11959;", "p6099;", "l1;"};

    public static void main(String[] args) {
        noLettersAndNinetySix();
        anyLetter();
        lettersWithWhichNoneCanGoOn();
        somethingLacks();
        firstKindAheadOfSecond();
        numbersOutOfRange();
        behindAllAheadOfIt();
        noRoom();
        allOfItOrNothing();
        DUE.end();
    }

    private static void noLettersAndNinetySix() {
        HandsForAWheel x = new HandsForAWheel();
        DUE.is("at least one STATEMENT", x.field(), -1000);
        DUE.is("and again", x.field(), -1000);
        DUE.is("95 letters", Due.feed(x, "l0;".repeat(31) + "l0"), 95);
        DUE.is("the 96th", x.feed(';'), 96);
        DUE.is("the 97th", x.feed(';'), -6);
        DUE.is("the 97th below", x.feed(-1), -4);
        DUE.is("the 97th above", x.feed(256), -6);
        DUE.is("96 letters", x.count(4), 96);
        DUE.is("32 STATEMENTS in 96 letters", x.field(), 32);
        DUE.is("none more", x.count(4), 0);
        DUE.is("a FAULT is no REFUSAL", x.count(11) + x.count(12) + x.count(13), 0);
        DUE.is("but for the letter below", x.count(14), 1);
        DUE.is("and those above or too many", x.count(16), 2);
        String[] texts = {"p1011;".repeat(16), "n20;".repeat(23) + "y000", "n20;".repeat(23) + "n20:", "n20;".repeat(23) + "n21;",
            "x" + ";".repeat(95)};
        int[] due = {-2036, -1096, -1095, -2092, -1000};
        for (int i = 0; i < texts.length; i++) {
            x = new HandsForAWheel();
            DUE.is("96 letters", Due.feed(x, texts[i]), 96);
            DUE.is("field " + texts[i], x.field(), due[i]);
            DUE.is("nobody came, nor more YARDS", 100 * x.count(0) + x.count(1), 10);
            DUE.is("no letters then", x.count(4), 0);
        }
    }

    private static void anyLetter() {
        DUE.all(new HandsForAWheel(), """
            feed -1 = -4
            feed -2147483648 = -4
            feed 256 = -6
            feed 2147483647 = -6
            count 4 = 0
            feed 0 = 1
            field = -1000
            feed 255 = 1
            field = -1000
            feed 108 = 1
            feed 0 = 2
            field = -1001
            feed 108 = 1
            feed 48 = 2
            feed 255 = 3
            field = -1002
            feed 110 = 1
            feed 304 = -6
            feed 48 = 2
            feed 49 = 3
            feed 59 = 4
            field = 1
            count 1 = 1
            """);
    }

    /** At each place of each STATEMENT the letters beside the digits, ";" and letters that stand elsewhere. */
    private static void lettersWithWhichNoneCanGoOn() {
        for (String ahead : new String[] {"", "l1;", "n20;l0;"}) {
            for (String statement : STATEMENTS) {
                for (int i = 0; i < statement.length(); i++) {
                    String letters = i == 0 ? "mozxqkNYPL;0 " : i == statement.length() - 1 ? ":<09nl " : "/:; n-+";
                    for (char letter : letters.toCharArray()) {
                        wrongAt(ahead, statement, i, letter);
                    }
                }
            }
        }
    }

    private static void wrongAt(String ahead, String statement, int place, char letter) {
        HandsForAWheel x = new HandsForAWheel();
        String text = ahead + statement.substring(0, place) + letter;
        DUE.is("field " + text, Due.field(x, text), -1000 - ahead.length() - place);
        String whole = text + statement.substring(place + 1);
        DUE.is("field " + whole, Due.field(x, whole), -1000 - ahead.length() - place);
        DUE.is("no letters then", x.count(4), 0);
        DUE.is("nothing came", x.count(0) + x.count(1) + x.count(2), 10);
    }

    private static void somethingLacks() {
        for (String ahead : new String[] {"", "p1011;"}) {
            for (String statement : STATEMENTS) {
                for (int i = 1; i < statement.length(); i++) {
                    HandsForAWheel x = new HandsForAWheel();
                    String text = ahead + statement.substring(0, i);
                    DUE.is("field " + text, Due.field(x, text), -1000 - text.length());
                    DUE.is("nothing came", x.count(0) + x.count(1) + x.count(2), 10);
                }
            }
        }
    }

    /** Though what is out of range stands first. */
    private static void firstKindAheadOfSecond() {
        HandsForAWheel x = new HandsForAWheel();
        String[] texts = {"n00;x", "n21;n", "l9;l0", "p0000;;", "y99999;l1;y", "n00", "n99:"};
        int[] places = {4, 5, 5, 6, 11, 3, 3};
        for (int i = 0; i < texts.length; i++) {
            DUE.is("field " + texts[i], Due.field(x, texts[i]), -1000 - places[i]);
        }
        DUE.is("the first STATEMENT of two", Due.field(x, "l0;n00;l9;"), -2003);
    }

    /** The least and the greatest number of each, the one below and the one above. */
    private static void numbersOutOfRange() {
        String[] good = {"n01;", "n20;", "n09;", "y00000;", "y10959;", "y00009;", "y00050;", "p0111;", "p6011;", "p0191;",
            "p0119;", "p6099;", "l0;", "l1;"};
        for (String text : good) {
            DUE.is("field " + text, Due.field(new HandsForAWheel(), text), 1);
            DUE.is("field l0;" + text, Due.field(new HandsForAWheel(), "l0;" + text), 2);
        }
        String[] bad = {"n00;", "n21;", "n30;", "n99;", "y20000;", "y90000;", "y01000;", "y02000;", "y09900;", "y00060;",
            "y00090;", "p0011;", "p6111;", "p7011;", "p9911;", "p0101;", "p0110;", "p0000;", "l2;", "l9;"};
        for (String text : bad) {
            DUE.is("field " + text, Due.field(new HandsForAWheel(), text), -2000);
            DUE.is("field l1;" + text, Due.field(new HandsForAWheel(), "l1;" + text), -2003);
            DUE.is("field " + text + "l0;", Due.field(new HandsForAWheel(), text + "l0;"), -2000);
        }
        HandsForAWheel x = Due.of("n20;y11959;y00010;p6099;p0111;l1;");
        DUE.all(x, """
            count 1 = 20
            ground 1 19 0 = 5
            ground 1 19 1 = 9
            ground 0 19 0 = 0
            ground 0 0 0 = 1
            ground 0 0 1 = 0
            one 0 0 = 60
            one 0 1 = 9
            one 0 2 = 9
            one 1 0 = 1
            one 1 1 = 1
            one 1 2 = 1
            count 2 = 1
            count 0 = 2
            """);
    }

    private static void behindAllAheadOfIt() {
        DUE.is("the YARDS told ahead", Due.field(new HandsForAWheel(), "n20;y01911;"), 2);
        DUE.is("those told behind come too late", Due.field(new HandsForAWheel(), "y01011;n20;"), -2000);
        DUE.is("fewer", Due.field(new HandsForAWheel(), "y00911;n09;y00911;"), -2011);
        DUE.is("the last there is", Due.field(new HandsForAWheel(), "y00911;n09;y00811;"), 3);
        DUE.is("one YARD", Due.field(new HandsForAWheel(), "n01;y00100;"), -2004);
        DUE.is("one YARD", Due.field(new HandsForAWheel(), "n01;y10000;"), 2);
        HandsForAWheel x = Due.of("y00011;y00022;n05;n06;l1;l0;");
        DUE.is("the later KIND", x.ground(0, 0, 0), 2);
        DUE.is("the later YARDS", x.count(1), 6);
        DUE.is("the later LANE", x.count(2), 0);
    }

    private static void noRoom() {
        String six = "p1011;".repeat(6);
        DUE.is("six", Due.field(new HandsForAWheel(), six), 6);
        DUE.is("seven", Due.field(new HandsForAWheel(), six + "p1011;"), -2036);
        HandsForAWheel x = Due.of(six);
        DUE.is("all", x.count(0), 6);
        DUE.is("the seventh", Due.field(x, "p1011;"), -2000);
        DUE.is("behind others", Due.field(x, "l1;n05;p1011;"), -2007);
        DUE.is("a seventh out of range", Due.field(x, "l1;p0011;"), -2003);
        DUE.is("the LANE stays", x.count(2), 0);
        DUE.is("nobody else", Due.field(x, "l1;"), 1);
        x = Due.of("p1011;".repeat(5));
        DUE.is("two for one place", Due.field(x, "p2022;p3033;"), -2006);
        DUE.is("neither comes", x.count(0), 5);
        DUE.is("one for one place", Due.field(x, "p2022;"), 1);
        DUE.is("he comes", x.one(5, 0), 20);
    }

    private static void allOfItOrNothing() {
        for (String bad : new String[] {"n00;", "x", "l"}) {
            HandsForAWheel x = Due.of("n12;p3033;y01124;");
            x.yard(0, 11, 4, 2);
            DUE.is("a FAULT at the end", Due.field(x, "n20;y01155;l1;p1011;" + bad) < -1000 ? 1 : 0, 1);
            DUE.all(x, """
                count 0 = 1
                count 1 = 12
                count 2 = 0
                count 3 = 30
                count 4 = 0
                count 6 = 1
                ground 0 11 0 = 4
                ground 0 11 1 = 2
                one 1 0 = -1
                back = 0
                ground 0 11 0 = 2
                ground 0 11 1 = 4
                """);
        }
        HandsForAWheel x = Due.of("n12;");
        x.feed('n');
        DUE.is("letters of twice feeding are one text", Due.field(x, "13;"), 1);
        DUE.is("YARDS", x.count(1), 13);
        DUE.is("letters that lack, then none", Due.field(x, "n1"), -1002);
        DUE.is("the rest alone has no sense", Due.field(x, "4;"), -1000);
    }
}
