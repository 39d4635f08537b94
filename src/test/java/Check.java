/** Counts what is not as due, and says so at the end by the exit code. */
final class Check {
    private int right = 0;
    private int wrong = 0;
    /** The document's words that are under test, told with each answer that is not as due. */
    private String sentence = "";

    void sentence(String words) {
        sentence = "[" + words + "] ";
    }

    void due(String call, long got, long want) {
        if (got == want) {
            right++;
        } else {
            wrong++;
            System.out.println(sentence + call + " answered " + got + ", due is " + want);
        }
    }

    void that(String what, boolean holds) {
        due(what, holds ? 1 : 0, 1);
    }

    boolean allRight() {
        return wrong == 0;
    }

    void close(String name) {
        System.out.println(name + ": " + right + " as due, " + wrong + " not as due");
        if (wrong > 0 || right == 0) {
            System.exit(1);
        }
    }

    static void feed(WheelTickets x, String text) {
        for (int i = 0; i < text.length(); i++) {
            x.feed(text.charAt(i));
        }
    }

    /** A new object to which a text was told that must be taken. */
    static WheelTickets told(String text) {
        WheelTickets x = new WheelTickets();
        feed(x, text);
        int lines = x.text();
        if (lines < 0) {
            throw new IllegalStateException("the text is not taken (" + lines + "): " + text);
        }
        return x;
    }
}
