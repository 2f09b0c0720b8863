/** Counts answers that are not due, and tells texts to a SpareDay. */
final class Check {
    private int asked = 0;
    private int wrong = 0;
    private String test = "";

    /** What is asked from here on belongs to this test. */
    void under(String name) {
        test = name.isEmpty() ? "" : name + ": ";
    }

    void due(String call, long want, long got) {
        asked++;
        if (got != want) {
            wrong++;
            System.out.println(test + call + " answered " + got + ", due is " + want);
        }
    }

    void due(String call, boolean want, boolean got) {
        due(call, want ? 1 : 0, got ? 1 : 0);
    }

    void finish() {
        System.out.println(asked + " answers, " + wrong + " not as due");
        if (wrong > 0) {
            System.exit(1);
        }
    }

    /** The TAPE has just this text then. */
    static void put(SpareDay x, String text) {
        x.end(0);
        StringBuilder padded = new StringBuilder(text);
        while (padded.length() % 20 != 0) {
            padded.append('#');
        }
        for (int i = 0; i < padded.length(); i += 20) {
            x.feed(four(padded, i), four(padded, i + 4), four(padded, i + 8), four(padded, i + 12), four(padded, i + 16));
        }
        x.end(text.length());
    }

    private static int four(CharSequence s, int i) {
        return s.charAt(i) << 24 | s.charAt(i + 1) << 16 | s.charAt(i + 2) << 8 | s.charAt(i + 3);
    }

    static int tell(SpareDay x, int k, String text) {
        put(x, text);
        return x.text(k);
    }

    /** So many PEOPLE, all of the same AGE and NEED. */
    static SpareDay people(int n) {
        SpareDay x = new SpareDay();
        for (int i = 0; i < n; i++) {
            x.person(30, 5);
        }
        return x;
    }
}
