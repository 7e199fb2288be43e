/** Counts and prints the calls whose answer is not the one that is due. */
final class Checks {
    private int wrong;
    private int asked;
    private String group = "";

    void group(String name) {
        group = name;
    }

    void due(String call, long got, long want) {
        asked++;
        if (got != want) {
            wrong++;
            System.out.println(group + ": " + call + " answered " + got + ", due is " + want);
        }
    }

    void holds(String what, boolean is) {
        asked++;
        if (!is) {
            wrong++;
            System.out.println(group + ": " + what + " does not hold");
        }
    }

    void end() {
        System.out.println(asked + " checks, " + wrong + " wrong");
        if (wrong != 0 || asked == 0) {
            System.exit(1);
        }
    }

    static void feedAll(WindowsGive x, String text) {
        for (int i = 0; i < text.length(); i++) {
            x.feed(text.charAt(i));
        }
    }

    /** What text() answers to a tape of just this. */
    static int textOf(WindowsGive x, String text) {
        feedAll(x, text);
        return x.text();
    }

    /** What of a pane: 100 times its number, and its shift and 9. */
    static int of(int number, int shift) {
        return 100 * number + shift + 9;
    }
}
