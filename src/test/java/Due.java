/** What the tests share: answers against what is due, and texts that are fed to the tape. */
final class Due {
    private static int asked = 0;
    private static int wrong = 0;

    private Due() {
    }

    static void is(String call, long got, long want) {
        asked++;
        if (got != want) {
            wrong++;
            System.out.println(call + " answered " + got + ", due is " + want);
        }
    }

    static void holds(String what, boolean so) {
        is(what, so ? 1 : 0, 1);
    }

    /** Feeds a text, as many bytes at a time as a call takes. */
    static int feed(DeedProofs office, String text) {
        int size = office.count(7);
        for (int at = 0; at < text.length(); at += 8) {
            String part = text.substring(at, Math.min(text.length(), at + 8));
            long word = 0;
            for (int i = 0; i < part.length(); i++) {
                word = word << 8 | part.charAt(i);
            }
            size = office.feed(word, part.length());
        }
        return size;
    }

    static int rule(DeedProofs office, String text) {
        feed(office, text);
        return office.rule();
    }

    static int change(DeedProofs office, int rule, int day, String text) {
        feed(office, text);
        return office.change(rule, day);
    }

    static int tactic(DeedProofs office, String text) {
        feed(office, text);
        return office.tactic();
    }

    /** A fact from its sign and arguments: fact("o123"). */
    static int fact(String text) {
        return 125 * "oshmlw".indexOf(text.charAt(0)) + 25 * (text.charAt(1) - '0') + 5 * (text.charAt(2) - '0')
                + text.charAt(3) - '0';
    }

    /** Letters as a number from four digits: letters("4320"). */
    static int letters(String text) {
        return Integer.parseInt(text, 5);
    }

    static void end() {
        System.out.println(asked + " answers, " + wrong + " not as due");
        if (asked == 0 || wrong != 0) {
            System.exit(1);
        }
    }
}
