import java.util.function.Supplier;

/** Terms 1 and promises 1 to 6: a test of its own for each sentence that names a boundary, which stands above it. */
public final class RulesEdgesTest {
    private static final int LEAST = Integer.MIN_VALUE, MOST = Integer.MAX_VALUE;
    /** 3 TERMS and 4 TESTS: 51 bytes. */
    private static final String LONGEST = "a<b&o(a,b,c)&c=4&s(d,d,0)&d#0&h(1,2,3)&a#a>m(d,c,b)";

    public static void main(String[] args) {
        newObjectHasNothing();
        dayTooSmallOrTooLarge();
        dayOfOneAndOf99();
        dayBeyond999();
        feedOfNoneOrTooMany();
        feedOfEachSize();
        feedFull();
        partsNone();
        partsInAnyOrder();
        partsTooMany();
        termsNoneOrTooMany();
        testsTooMany();
        argsTooSmallOrTooLarge();
        testsOfWrongSigns();
        missingBytes();
        endsTooEarly();
        wrongByteAtEachPlace();
        moreBehindARule();
        lettersInNoTerm();
        lettersToldLater();
        ruleFull();
        ruleFaultEmptiesTheTape();
        faultLeavesNothingBehind();
        changeOfNoRule();
        changeDays();
        changeFull();
        changeFaultEmptiesTheTape();
        textOfADay();
        toldRefused();
        Due.end();
    }

    /** "DeedProofs(): No RULES, no PAPERS." "TODAY is 0 at first." */
    private static void newObjectHasNothing() {
        DeedProofs office = new DeedProofs();
        for (int what = 0; what < 8; what++) {
            Due.is("new: count " + what, office.count(what), 0);
        }
        Due.is("new: no rule", office.told(0, 0, 0), DeedProofs.NONE);
        Due.is("new: no paper", office.of(0, 0), DeedProofs.NONE);
        Due.is("new: no proof", office.check(0, 0), DeedProofs.NONE);
        Due.is("new: no title", office.stand(0, 0), DeedProofs.NONE);
        Due.is("new: no tactic", office.run(0, 1, 0), DeedProofs.NONE);
    }

    /** "n DAYS (1 .. 99) go by": BAD. */
    private static void dayTooSmallOrTooLarge() {
        for (int n : new int[] {0, -1, LEAST, 100, MOST}) {
            Still.refused("day " + n, Offices::someWithTape, DeedProofs.BAD, office -> office.day(n));
        }
    }

    /** "n DAYS (1 .. 99) go by: TODAY." */
    private static void dayOfOneAndOf99() {
        DeedProofs office = new DeedProofs();
        Due.is("day 1", office.day(1), 1);
        Due.is("day 99", office.day(99), 100);
        Due.is("today", office.count(0), 100);
    }

    /** "BAD: also beyond 999." "DAYS are 0 .. 999" */
    private static void dayBeyond999() {
        Supplier<DeedProofs> at900 = Offices.then(DeedProofs::new, RulesEdgesTest::goTo900);
        Supplier<DeedProofs> at901 = Offices.then(at900, office -> office.day(1));
        Due.is("99 from 900", at900.get().day(99), 999);
        Still.refused("99 from 901", at901, DeedProofs.BAD, office -> office.day(99));
        Due.is("98 from 901", at901.get().day(98), 999);
        Still.refused("1 from 999", Offices::full, DeedProofs.BAD, office -> office.day(1));
        Still.refused("99 from 999", Offices::full, DeedProofs.BAD, office -> office.day(99));
    }

    private static void goTo900(DeedProofs office) {
        for (int i = 0; i < 9; i++) {
            office.day(99);
        }
        office.day(9);
    }

    /** "BAD: n not 1 .. 8" */
    private static void feedOfNoneOrTooMany() {
        for (int n : new int[] {0, -1, LEAST, 9, 16, MOST}) {
            Still.refused("feed " + n, Offices::someWithTape, DeedProofs.BAD, office -> office.feed(0x7878, n));
        }
    }

    /** "The n lowest bytes of w, the highest first, come behind THE TAPE's: how many it has." */
    private static void feedOfEachSize() {
        for (int n = 1; n <= 8; n++) {
            DeedProofs office = new DeedProofs();
            int size = 0;
            for (int at = 0; at < LONGEST.length(); at += n) {
                int count = Math.min(n, LONGEST.length() - at);
                // The bytes of w above the n lowest are all ones.
                long word = -1;
                for (int i = 0; i < count; i++) {
                    word = word << 8 | LONGEST.charAt(at + i);
                }
                size += count;
                Due.is("feed of " + n, office.feed(word, count), size);
            }
            Due.is("read as fed by " + n, office.rule(), 0);
            Due.is("its terms", office.told(0, 0, 0), 3);
            Due.is("its tests", office.told(0, 0, 1), 4);
        }
    }

    /** "THE TAPE (bytes, 120 at most)": "FULL." */
    private static void feedFull() {
        for (int bytes = 1; bytes <= 8; bytes++) {
            int n = bytes;
            Supplier<DeedProofs> fits = Offices.then(Offices::some, office -> Due.feed(office, "x".repeat(120 - n)));
            Supplier<DeedProofs> tight = Offices.then(fits, office -> office.feed('x', 1));
            Due.is("the last " + n, fits.get().feed(0, n), 120);
            Still.refused("one less than " + n + " left", tight, DeedProofs.FULL, office -> office.feed(0, n));
            Still.refused(n + " to a full tape", Offices::full, DeedProofs.FULL, office -> office.feed(0, n));
            Still.refused(n + " behind a rule", Offices.then(Offices::someWithTape, office -> Due.feed(office, "x".repeat(103))),
                    DeedProofs.FULL, office -> office.feed(0, n));
        }
    }

    /** "PARTS, 1 to 7 of them" */
    private static void partsNone() {
        fault("", 0);
        fault(">o(0,0,0)", 0);
        fault("&o(0,0,0)>o(0,0,0)", 0);
        fault("o(0,0,0)&>o(0,0,0)", 9);
        fault("o(0,0,0)&&o(0,0,0)>o(0,0,0)", 9);
        reads("o(0,0,0)>o(0,0,0)", 1, 0);
    }

    /** "1 to 3 TERMS, 4 TESTS at most, in any order" */
    private static void partsInAnyOrder() {
        for (int terms = 0; terms <= 3; terms++) {
            for (int tests = 0; tests <= 4; tests++) {
                for (int order = 0; order < 1 << (terms + tests); order++) {
                    if (Integer.bitCount(order) == terms && terms > 0) {
                        reads(parts(order, terms + tests) + ">w(a,b,0)", terms, tests);
                    }
                }
            }
        }
    }

    /** TERMS where the order has a bit, TESTS where it has none. */
    private static String parts(int order, int count) {
        StringBuilder text = new StringBuilder();
        for (int i = 0; i < count; i++) {
            text.append(i == 0 ? "" : "&").append((order >> i & 1) != 0 ? "o(a,b,4)" : "a<b");
        }
        return text.toString();
    }

    /** "PARTS, 1 to 7 of them, with & between" */
    private static void partsTooMany() {
        for (int order = 0; order < 128; order++) {
            if (Integer.bitCount(order) == 3) {
                fault(parts(order, 7) + "&a<b>w(a,b,0)", 42);
                fault(parts(order, 7) + "&o(a,b,4)>w(a,b,0)", 42);
            }
        }
    }

    /** "1 to 3 TERMS" */
    private static void termsNoneOrTooMany() {
        fault("a<b>o(0,0,0)", 3);
        fault("a<b&a<b>o(0,0,0)", 7);
        fault("a<b&a<b&a<b&a<b>o(0,0,0)", 15);
        for (int tests = 0; tests < 4; tests++) {
            String text = "a<b&".repeat(tests) + "o(a,b,0)&s(a,b,0)&h(a,b,0)&m(a,b,0)>o(0,0,0)";
            fault(text, 4 * tests + 27);
        }
    }

    /** "4 TESTS at most" */
    private static void testsTooMany() {
        for (int terms = 0; terms < 3; terms++) {
            fault("o(a,b,0)&".repeat(terms) + "a<b&a=b&a#b&a<4&b<4>o(0,0,0)", 9 * terms + 16);
        }
    }

    /** "ARG: a letter of a b c d, or a digit 0 .. 4." */
    private static void argsTooSmallOrTooLarge() {
        int[] places = {2, 4, 6, 11, 13, 15};
        for (int place : places) {
            for (char sign : new char[] {'/', '5', '9', '`', 'e', 'A', 'o', ',', 0, 255}) {
                fault(with("o(a,a,a)>o(a,a,a)", place, sign), place);
            }
            for (char sign : new char[] {'0', '4', 'a', 'd'}) {
                String text = "o(a,b,c)&o(d,0,0)&" + with("o(a,a,a)>o(a,a,a)", place, sign);
                reads(text, 3, 0);
            }
        }
    }

    /** "TEST: a letter of a b c d, one of < = #, and a letter of these or a digit 0 .. 4" */
    private static void testsOfWrongSigns() {
        String text = "o(a,b,c)&o(d,0,0)&a<b>o(a,a,a)";
        for (char sign : new char[] {'0', '4', '`', 'e', '<'}) {
            fault(with(text, 18, sign), 18);
        }
        for (char sign : new char[] {'>', ';', '!', '$', '(', 'a'}) {
            fault(with(text, 19, sign), 19);
        }
        for (char sign : new char[] {'/', '5', '`', 'e', 'w', '>', '='}) {
            fault(with(text, 20, sign), 20);
        }
        for (char sign : new char[] {'0', '4', 'a', 'd'}) {
            reads(with(text, 20, sign), 2, 1);
        }
        for (char sign : new char[] {'<', '=', '#'}) {
            reads(with(text, 19, sign), 2, 1);
        }
        reads(with(text, 18, 'd'), 2, 1);
    }

    /** "FAULT: the place of the first byte with which no RULE can go on": where one is left out, the next one is it. */
    private static void missingBytes() {
        fault("o>o(0,0,0)", 1);
        fault("o(>o(0,0,0)", 2);
        fault("o(,0,0)>o(0,0,0)", 2);
        fault("o(0>o(0,0,0)", 3);
        fault("o(00,0)>o(0,0,0)", 3);
        fault("o(0,0>o(0,0,0)", 5);
        fault("o(0,0,0>o(0,0,0)", 7);
        fault("o(0,0,0)o(0,0,0)", 8);
        fault("o(0,0,0)a<1>o(0,0,0)", 8);
        fault("o(a,0,0)&<1>o(0,0,0)", 9);
        fault("o(a,0,0)&a1>o(0,0,0)", 10);
        fault("o(a,0,0)&a<>o(0,0,0)", 11);
        fault("o(a,0,0)&a<1o(0,0,0)", 12);
        fault("o(0,0,0)>(0,0,0)", 9);
        fault("o(0,0,0)>o0,0,0)", 10);
        fault("o(0,0,0)>o(0,0,)", 15);
    }

    /** "the size, if it ends too early" */
    private static void endsTooEarly() {
        for (int size = 0; size < LONGEST.length(); size++) {
            fault(LONGEST.substring(0, size), size);
        }
        reads(LONGEST, 3, 4);
    }

    /** "the place of the first byte with which no RULE can go on" */
    private static void wrongByteAtEachPlace() {
        for (int place = 0; place < LONGEST.length(); place++) {
            fault(with(LONGEST, place, '!'), place);
            fault(with(LONGEST, place, (char) (LONGEST.charAt(place) + 128)), place);
        }
    }

    /** "then > and a TERM (the END)": nothing may come behind. */
    private static void moreBehindARule() {
        fault(LONGEST + "&", 51);
        fault(LONGEST + LONGEST, 51);
        fault(LONGEST + " ".repeat(69), 51);
        fault("o(0,0,0)>o(0,0,0)>o(0,0,0)", 17);
    }

    /** "200, if there is a letter in the END or a TEST that is in no TERM" */
    private static void lettersInNoTerm() {
        for (char letter = 'a'; letter <= 'd'; letter++) {
            String others = "abcd".replace(String.valueOf(letter), "");
            String term = "o(" + others.charAt(0) + "," + others.charAt(1) + "," + others.charAt(2) + ")";
            for (int arg = 0; arg < 3; arg++) {
                fault(term + ">" + with("o(0,0,0)", 2 + 2 * arg, letter), 200);
                reads(term + ">" + with("o(0,0,0)", 2 + 2 * arg, others.charAt(arg)), 1, 0);
            }
            fault(term + "&" + letter + "=" + letter + ">o(0,0,0)", 200);
            fault(term + "&" + letter + "<4>o(0,0,0)", 200);
            fault(term + "&" + others.charAt(0) + "#" + letter + ">o(0,0,0)", 200);
            reads(term + "&" + others.charAt(0) + "#" + others.charAt(2) + ">o(0,0,0)", 1, 1);
        }
    }

    /** "letters of the END and of TESTS need be in no TERM as it is read"; "or, if all is read: 200" */
    private static void lettersToldLater() {
        reads("d<1&o(a,b,c)&s(0,0,d)>o(d,d,d)", 2, 1);
        fault("d<1&o(a,b,c)>o(d,d,d)", 200);
        fault("d<1&o(a,b,c)>o(d,d,d)!", 21);
        fault("d<1&o(a,b,c)>o(d,d,d", 20);
        fault("d<1&o(a,b,c)!", 12);
    }

    /** "RULES are numbered from 0 on, 8 at most." "FULL (THE TAPE stays)." */
    private static void ruleFull() {
        DeedProofs counted = new DeedProofs();
        for (int i = 0; i < 8; i++) {
            Due.is("rule " + i, Due.rule(counted, "s(a,b,c)>o(b,a,c)"), i);
        }
        Supplier<DeedProofs> eight = Offices.then(DeedProofs::new, office -> Offices.fillRules(office, 8));
        Supplier<DeedProofs> fed = Offices.then(eight, office -> Due.feed(office, "s(a,b,c)&a<b>l(b,a,c)"));
        Still.refused("a ninth", fed, DeedProofs.FULL, DeedProofs::rule);
        Still.refused("a ninth beside all else", Offices.someAnd(office -> Offices.fillRules(office, 5)), DeedProofs.FULL,
                DeedProofs::rule);
        Still.refused("a ninth with a fault", Offices::full, DeedProofs.FULL, DeedProofs::rule);
        Still.refused("a ninth of no bytes", eight, DeedProofs.FULL, DeedProofs::rule);
        DeedProofs office = fed.get();
        office.rule();
        Due.is("the tape stays", office.count(7), 21);
        Due.is("and is a change's text", office.change(0, 0), 1);
        Due.is("with its test", office.told(0, 0, 1), 1);
    }

    /** "THE TAPE, which is empty then, is a RULE: its number; -10 less the FAULT." */
    private static void ruleFaultEmptiesTheTape() {
        for (String text : new String[] {"", "x", "o(a,b,c)>o(a,b,c", "o(a,b,c)>o(a,b,d)"}) {
            Still.alike("a fault of " + text + " changes the tape alone", Offices::some,
                    Offices.then(Offices::some, office -> Due.rule(office, text)));
        }
        Still.unlike("a rule changes more", Offices::some, Offices.then(Offices::someWithTape, DeedProofs::rule));
        DeedProofs office = Offices.someWithTape();
        Due.is("its number", office.rule(), 3);
        Due.is("empty then", office.count(7), 0);
    }

    /** The same: what a FAULT was found behind is no part of the RULE that comes next. */
    private static void faultLeavesNothingBehind() {
        DeedProofs office = new DeedProofs();
        Due.is("a fault", Due.rule(office, "o(a,b,c)&s(a,b,c)&d<1&d<2>x"), -36);
        Due.is("letters of it do not count", Due.rule(office, "o(a,b,0)>o(a,b,c)"), -210);
        Due.is("its tests do not count", Due.rule(office, "o(a,b,c)>o(a,b,c)"), 0);
        Due.is("terms", office.told(0, 0, 0), 1);
        Due.is("tests", office.told(0, 0, 1), 0);
        Due.is("a fault of a change", Due.change(office, 0, 0, "o(a,b,c)&s(a,b,c)&d<1&d<2>x"), -36);
        Due.is("a change", Due.change(office, 0, 0, "o(a,b,c)&a<2>o(a,b,c)"), 1);
        Due.is("terms then", office.told(0, 0, 0), 1);
        Due.is("tests then", office.told(0, 0, 1), 1);
    }

    /** "NONE", with the number of a RULE; "THE TAPE stays with these" */
    private static void changeOfNoRule() {
        for (int rule : new int[] {-1, 3, 8, LEAST, MOST}) {
            Still.refused("change of rule " + rule, Offices::someWithTape, DeedProofs.NONE, office -> office.change(rule, 5));
        }
        DeedProofs office = Offices.someWithTape();
        office.change(3, 5);
        Due.is("the tape stays", office.count(7), 17);
        Due.is("as it was", office.change(2, 5), 2);
    }

    /** "BAD: day (TODAY .. 999)"; "A RULE CHANGES from a DAY on (TODAY, or later)" */
    private static void changeDays() {
        for (int day : new int[] {4, 0, -1, LEAST, 1000, MOST}) {
            Still.refused("change from day " + day, Offices::someWithTape, DeedProofs.BAD, office -> office.change(0, day));
        }
        Due.is("from today", Offices.someWithTape().change(0, 5), 2);
        Due.is("from 999", Offices.someWithTape().change(0, 999), 2);
        Due.is("from 0 on day 0", Due.change(ruled(), 0, 0, "o(a,b,c)>o(a,b,c)"), 1);
        DeedProofs office = Offices.someWithTape();
        office.change(0, 4);
        Due.is("the tape stays", office.change(0, 5), 2);
        Due.is("empty then", office.count(7), 0);
    }

    /** "12 changes of all at most"; "FULL (THE TAPE stays with these)" */
    private static void changeFull() {
        Supplier<DeedProofs> twelve = () -> {
            DeedProofs office = ruled();
            for (int i = 0; i < 12; i++) {
                Due.is("change " + i, Due.change(office, i % 2, 999 - i, "o(a,b,c)>l(a,b,c)"), i + 1);
            }
            return office;
        };
        Supplier<DeedProofs> fed = Offices.then(twelve, office -> Due.feed(office, "o(a,b,c)&a<b>l(b,a,c)"));
        Still.refused("a thirteenth", fed, DeedProofs.FULL, office -> office.change(0, 0));
        Supplier<DeedProofs> some = Offices.someAnd(
                Offices.times(11, (office, i) -> Due.change(office, i % 3, 9 + i, "o(a,b,c)>l(a,b,c)")));
        Still.refused("a thirteenth beside all else", some, DeedProofs.FULL, office -> office.change(0, 5));
        Still.refused("a thirteenth of the other", fed, DeedProofs.FULL, office -> office.change(1, 999));
        Still.refused("a thirteenth with a fault", Offices::full, DeedProofs.FULL, office -> office.change(0, 999));
        DeedProofs office = fed.get();
        office.change(0, 0);
        Due.is("the tape stays", office.rule(), 2);
        Due.is("as it was", office.told(2, 0, 1), 1);
    }

    /** "to THE TAPE (which is empty then): how many changes there are; -10 less the FAULT" */
    private static void changeFaultEmptiesTheTape() {
        for (String text : new String[] {"", "x", "o(a,b,c)>o(a,b,c", "o(a,b,c)>o(a,b,d)"}) {
            Still.alike("a fault of " + text + " changes the tape alone", Offices::some,
                    Offices.then(Offices::some, office -> Due.change(office, 1, 5, text)));
        }
    }

    /** "the text that it was told last for that DAY or an earlier one (by DAYS; of one DAY the later told), at first .. its own" */
    private static void textOfADay() {
        DeedProofs office = ruled();
        Due.change(office, 0, 20, "o(a,b,c)&a=0>o(a,b,c)");
        Due.is("own till the day ahead", office.told(0, 19, 2), -5);
        Due.is("from the day on", office.told(0, 20, 2), 0);
        Due.is("till the last day", office.told(0, 999, 2), 0);
        Due.change(office, 0, 10, "o(a,b,c)&a=0&a=1>o(a,b,c)");
        Due.is("own ahead of both", office.told(0, 9, 2), -5);
        Due.is("an earlier one, told later", office.told(0, 10, 2), 1);
        Due.is("till the day ahead of the other", office.told(0, 19, 2), 1);
        Due.is("is not in force on the other's day", office.told(0, 20, 2), 0);
        Due.is("nor later", office.told(0, 999, 1), 1);
        Due.change(office, 0, 20, "o(a,b,c)&a=0&a=1&a=2>o(a,b,c)");
        Due.is("of one day the later told", office.told(0, 20, 2), 2);
        Due.is("with its tests", office.told(0, 20, 1), 3);
        Due.change(office, 0, 0, "o(a,b,c)&o(a,b,c)>o(a,b,c)");
        Due.is("from day 0 on", office.told(0, 0, 2), 3);
        Due.is("with its terms", office.told(0, 9, 0), 2);
        Due.is("the other rule has its own", office.told(1, 999, 2), -5);
    }

    /** "NONE; BAD: day." "NONE there is no such RULE .. what" */
    private static void toldRefused() {
        for (int none : new int[] {-1, 3, LEAST, MOST}) {
            Still.refused("told of rule " + none, Offices::someWithTape, DeedProofs.NONE, office -> office.told(none, 5, 0));
            Still.refused("told what " + none, Offices::someWithTape, DeedProofs.NONE, office -> office.told(0, 5, none));
        }
        for (int day : new int[] {-1, 1000, LEAST, MOST}) {
            for (int what = 0; what < 3; what++) {
                int asked = what;
                Still.refused("told on day " + day, Offices::someWithTape, DeedProofs.BAD,
                        office -> office.told(0, day, asked));
            }
        }
        Due.is("told on day 0", Offices.some().told(0, 0, 0), 1);
        Due.is("told on day 999", Offices.some().told(0, 999, 2), -5);
    }

    /** Two RULES of one TERM, on DAY 0. */
    private static DeedProofs ruled() {
        DeedProofs office = new DeedProofs();
        Due.rule(office, "o(a,b,c)>o(a,b,c)");
        Due.rule(office, "o(a,b,c)>s(a,b,c)");
        return office;
    }

    private static String with(String text, int place, char sign) {
        return text.substring(0, place) + sign + text.substring(place + 1);
    }

    private static void reads(String text, int terms, int tests) {
        DeedProofs office = new DeedProofs();
        Due.is("rule " + text, Due.rule(office, text), 0);
        Due.is("terms of " + text, office.told(0, 0, 0), terms);
        Due.is("tests of " + text, office.told(0, 0, 1), tests);
    }

    /** The same FAULT as a RULE and as a change. */
    private static void fault(String text, int place) {
        DeedProofs office = ruled();
        Due.is("rule " + text, Due.rule(office, text), -10 - place);
        Due.is("change " + text, Due.change(office, 1, 0, text), -10 - place);
        Due.is("tape after " + text, office.count(7), 0);
        Due.is("rules after " + text, office.count(1), 2);
        Due.is("changes after " + text, office.count(2), 0);
    }
}
