/** Counts the answers that are not as due, and tells them. */
final class Due {
    private final String test;
    private int wrong = 0;
    private int looked = 0;

    Due(String test) {
        this.test = test;
    }

    void is(String call, long got, long want) {
        looked++;
        if (got != want) {
            wrong++;
            if (wrong <= 40) {
                System.out.println(test + ": " + call + " answered " + got + ", due is " + want);
            }
        }
    }

    /** Calls told in lines, as "race 0 1 0 3 0 = 345", each with the answer that is due. */
    void all(HandsForAWheel x, String lines) {
        for (String line : lines.strip().split("\n")) {
            String[] sides = line.strip().split(" = ");
            is(sides[0], call(x, sides[0]), Long.parseLong(sides[1]));
        }
    }

    static int call(HandsForAWheel x, String told) {
        String[] words = told.split(" ");
        Class<?>[] types = new Class<?>[words.length - 1];
        Object[] numbers = new Object[words.length - 1];
        for (int i = 1; i < words.length; i++) {
            types[i - 1] = int.class;
            numbers[i - 1] = Integer.valueOf(words[i]);
        }
        try {
            return (Integer) HandsForAWheel.class.getMethod(words[0], types).invoke(x, numbers);
        } catch (ReflectiveOperationException e) {
            throw new IllegalStateException(told, e);
        }
    }

    void end() {
        System.out.println(test + ": " + looked + " answers, " + wrong + " not as due");
        if (wrong != 0) {
            System.exit(1);
        }
    }

    /** Feeds a text letter by letter; how many letters there are then. */
    static int feed(HandsForAWheel x, String text) {
        int answer = x.count(4);
        for (int i = 0; i < text.length(); i++) {
            answer = x.feed(text.charAt(i));
        }
        return answer;
    }

    /** What field() answers to a text. */
    static int field(HandsForAWheel x, String text) {
        feed(x, text);
        return x.field();
    }

    static HandsForAWheel of(String text) {
        HandsForAWheel x = new HandsForAWheel();
        if (field(x, text) < 0) {
            throw new IllegalStateException("a test's own text is no field: " + text);
        }
        return x;
    }
}
