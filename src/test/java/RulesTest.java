/** Promises 1 to 6: a new object, day, feed, rule, change, told. */
public final class RulesTest {
    public static void main(String[] args) {
        newObject();
        days();
        feeding();
        rulesThatRead();
        ruleFaults();
        rulesFull();
        changes();
        changeRefusals();
        Due.end();
    }

    private static void newObject() {
        DeedProofs office = new DeedProofs();
        for (int what = 0; what < 8; what++) {
            Due.is("new: count " + what, office.count(what), 0);
        }
        Due.is("new: many", office.many(0), 0);
        Due.is("new: found", office.found(0), DeedProofs.STATE);
        Due.is("new: undo", office.undo(), DeedProofs.STATE);
        Due.is("new: told", office.told(0, 0, 0), DeedProofs.NONE);
        Due.is("new: of", office.of(0, 0), DeedProofs.NONE);
        Due.is("new: rule of no bytes", office.rule(), -10);
        Due.is("new: tactic of no bytes", office.tactic(), -10);
    }

    private static void days() {
        DeedProofs office = new DeedProofs();
        Due.is("day 0", office.day(0), DeedProofs.BAD);
        Due.is("day 100", office.day(100), DeedProofs.BAD);
        Due.is("day -1", office.day(-1), DeedProofs.BAD);
        Due.is("day most", office.day(Integer.MAX_VALUE), DeedProofs.BAD);
        Due.is("day 1", office.day(1), 1);
        for (int i = 1; i <= 10; i++) {
            Due.is("day 99", office.day(99), 1 + 99 * i);
        }
        Due.is("day beyond 999", office.day(9), DeedProofs.BAD);
        Due.is("day to 999", office.day(8), 999);
        Due.is("day beyond it", office.day(1), DeedProofs.BAD);
        Due.is("count today", office.count(0), 999);
    }

    private static void feeding() {
        DeedProofs office = new DeedProofs();
        Due.is("feed 0", office.feed(1, 0), DeedProofs.BAD);
        Due.is("feed 9", office.feed(1, 9), DeedProofs.BAD);
        Due.is("feed -1", office.feed(1, -1), DeedProofs.BAD);
        for (int i = 1; i <= 14; i++) {
            Due.is("feed 8", office.feed(-1L, 8), 8 * i);
        }
        Due.is("feed 7", office.feed(-1L, 7), 119);
        Due.is("feed beyond", office.feed(-1L, 2), DeedProofs.FULL);
        Due.is("feed bad beyond", office.feed(-1L, 9), DeedProofs.BAD);
        Due.is("feed the last", office.feed(-1L, 1), 120);
        Due.is("feed none left", office.feed(-1L, 1), DeedProofs.FULL);
        Due.is("bytes", office.count(7), 120);
        Due.is("fault at once", office.rule(), -10);
        Due.is("no bytes", office.count(7), 0);
        // The highest of the n lowest bytes comes first; those above do not matter.
        Due.is("feed of a wide word", office.feed(0x7f7f7f7f6f28612cL, 4), 4);
        Due.feed(office, "b,c)>o(a,b,c)");
        Due.is("read in order", office.rule(), 0);
    }

    private static void rulesThatRead() {
        DeedProofs office = new DeedProofs();
        String[] texts = {"o(a,b,c)>w(0,1,2)", "a<b&c=4&d#0&a#a&o(a,b,c)&s(d,d,0)&h(1,2,3)>m(d,c,b)",
            "w(a,a,a)&l(4,4,4)&a=a>l(a,0,a)"};
        int[] terms = {1, 3, 2};
        int[] tests = {0, 4, 1};
        for (int i = 0; i < texts.length; i++) {
            Due.is(texts[i], Due.rule(office, texts[i]), i);
            Due.is("empty then", office.count(7), 0);
            Due.is("rules", office.count(1), i + 1);
            Due.is("terms of " + texts[i], office.told(i, 0, 0), terms[i]);
            Due.is("tests of " + texts[i], office.told(i, 0, 1), tests[i]);
            Due.is("change of " + texts[i], office.told(i, 999, 2), -5);
        }
        Due.is("told what 3", office.told(0, 0, 3), DeedProofs.NONE);
        Due.is("told what -1", office.told(0, 0, -1), DeedProofs.NONE);
        Due.is("told no rule", office.told(3, 0, 0), DeedProofs.NONE);
        Due.is("told rule -1", office.told(-1, 0, 0), DeedProofs.NONE);
        Due.is("told day 1000", office.told(0, 1000, 0), DeedProofs.BAD);
        Due.is("told day -1", office.told(0, -1, 0), DeedProofs.BAD);
        Due.is("told none ahead of bad", office.told(0, -1, 3), DeedProofs.NONE);
    }

    private static void ruleFaults() {
        fault("", 0);
        fault("q", 0);
        fault("5", 0);
        fault("&", 0);
        fault("o", 1);
        fault("oo", 1);
        fault("o(", 2);
        fault("o(e", 2);
        fault("o(5", 2);
        fault("o(a.", 3);
        fault("o(a,b)", 5);
        fault("o(a,b,c", 7);
        fault("o(a,b,c,", 7);
        fault("o(a,b,c)", 8);
        fault("o(a,b,c);", 8);
        fault("o(a,b,c)>", 9);
        fault("o(a,b,c)>a", 9);
        fault("o(a,b,c)>o(a,b,c)&", 17);
        fault("o(a,b,c)&>", 9);
        fault("o(a,b,c)&4<a", 9);
        fault("o(a,b,c)&a", 10);
        fault("o(a,b,c)&a>", 10);
        fault("o(a,b,c)&a<", 11);
        fault("o(a,b,c)&a<5", 11);
        fault("o(a,b,c)&a<w", 11);
        fault("o(a,b,c)&a<bb", 12);
        fault("a<b", 3);
        fault("a<b>o(a,b,c)", 3);
        fault("a<b&a<b&a<b&a<b&a<b", 16);
        fault("a<b&a<b&a<b&a<b&>", 16);
        fault("o(a,a,a)&o(a,a,a)&o(a,a,a)&w(a,a,a)", 27);
        fault("o(a,a,a)&o(a,a,a)&o(a,a,a)&a=a&a=a&a=a&a=a&", 42);
        fault("o(0,0,0)>o(a,0,0)", 200);
        fault("o(b,c,d)>o(0,0,a)", 200);
        fault("o(a,b,c)&d<1>o(a,b,c)", 200);
        fault("d<1&o(a,b,c)>o(a,b,c)", 200);
        fault("o(a,b,c)&a=d>o(a,b,c)", 200);
        fault("o(0,0,0)>o(a,0,0", 16);
        fault("O(0,0,0)>o(0,0,0)", 0);
        fault("o(0,0,0)>o(0,0,0) ", 17);
        String edge = "o(a,b,c)&" + (char) 239;
        fault(edge, 9);
    }

    private static void fault(String text, int place) {
        DeedProofs office = new DeedProofs();
        Due.is("rule " + text, Due.rule(office, text), -10 - place);
        Due.is("tape after " + text, office.count(7), 0);
        Due.is("rules after " + text, office.count(1), 0);
        Due.rule(office, "o(a,b,c)>o(a,b,c)");
        Due.is("change " + text, Due.change(office, 0, 5, text), -10 - place);
        Due.is("tape after change " + text, office.count(7), 0);
        Due.is("changes after " + text, office.count(2), 0);
        Due.is("own text after " + text, office.told(0, 999, 2), -5);
    }

    private static void rulesFull() {
        DeedProofs office = new DeedProofs();
        for (int i = 0; i < 8; i++) {
            Due.is("rule", Due.rule(office, "o(a,b,c)>s(a,b,c)"), i);
        }
        Due.is("a ninth", Due.rule(office, "o(a,b,c)>s(a,b,c)"), DeedProofs.FULL);
        Due.is("its tape stays", office.count(7), 17);
        Due.is("rules", office.count(1), 8);
        Due.is("a faulty ninth", Due.rule(office, "x"), DeedProofs.FULL);
        Due.is("its tape stays too", office.count(7), 18);
    }

    private static void changes() {
        DeedProofs office = new DeedProofs();
        Due.rule(office, "o(a,b,c)>s(a,b,c)");
        Due.rule(office, "o(a,b,c)>h(a,b,c)");
        office.day(10);
        Due.is("first", Due.change(office, 0, 20, "o(a,b,c)&a=0>s(a,b,c)"), 1);
        Due.is("empty then", office.count(7), 0);
        Due.is("earlier", Due.change(office, 0, 10, "o(a,b,c)&a=0&b=0>s(a,b,c)"), 2);
        Due.is("of another rule", Due.change(office, 1, 15, "o(a,b,c)&h(a,b,c)>s(a,b,c)"), 3);
        Due.is("the same day", Due.change(office, 0, 20, "o(a,b,c)&a=0&b=0&c=0>s(a,b,c)"), 4);
        Due.is("the last day", Due.change(office, 0, 999, "o(a,b,c)&a=0&b=0&c=0&a=a>s(a,b,c)"), 5);
        int[] days = {0, 9, 10, 19, 20, 998, 999};
        int[] by = {-5, -5, 1, 1, 3, 3, 4};
        int[] tests = {0, 0, 2, 2, 3, 3, 4};
        for (int i = 0; i < days.length; i++) {
            Due.is("change on " + days[i], office.told(0, days[i], 2), by[i]);
            Due.is("tests on " + days[i], office.told(0, days[i], 1), tests[i]);
        }
        Due.is("other's ahead", office.told(1, 14, 2), -5);
        Due.is("other's terms ahead", office.told(1, 14, 0), 1);
        Due.is("other's", office.told(1, 15, 2), 2);
        Due.is("other's terms", office.told(1, 999, 0), 2);
        Due.is("count", office.count(2), 5);
        DeedProofs first = new DeedProofs();
        Due.rule(first, "o(a,b,c)>s(a,b,c)");
        Due.is("on day 0", Due.change(first, 0, 0, "o(a,b,c)&s(a,b,c)>s(a,b,c)"), 1);
        Due.is("in force on day 0", first.told(0, 0, 0), 2);
        Due.is("the first one", first.told(0, 0, 2), 0);
        Due.is("a later one", Due.change(first, 0, 9, "o(a,b,c)>s(a,b,c)"), 2);
        Due.is("one between", Due.change(first, 0, 5, "o(a,b,c)&o(a,b,c)&o(a,b,c)>s(a,b,c)"), 3);
        Due.is("in force between", first.told(0, 8, 2), 2);
        Due.is("in force later", first.told(0, 9, 2), 1);
    }

    private static void changeRefusals() {
        DeedProofs office = new DeedProofs();
        Due.rule(office, "o(a,b,c)>s(a,b,c)");
        office.day(5);
        Due.is("no such rule", Due.change(office, 1, 5, "x"), DeedProofs.NONE);
        Due.is("rule -1", office.change(-1, 4), DeedProofs.NONE);
        Due.is("day gone by", office.change(0, 4), DeedProofs.BAD);
        Due.is("day 1000", office.change(0, 1000), DeedProofs.BAD);
        Due.is("tape stays", office.count(7), 1);
        Due.is("fault", office.change(0, 5), -10);
        for (int i = 1; i <= 12; i++) {
            Due.is("change", Due.change(office, 0, 999, "o(a,b,c)>o(a,b,c)"), i);
        }
        Due.is("a thirteenth", Due.change(office, 0, 999, "x"), DeedProofs.FULL);
        Due.is("none ahead of full", office.change(1, 4), DeedProofs.NONE);
        Due.is("bad ahead of full", office.change(0, 4), DeedProofs.BAD);
        Due.is("its tape stays", office.count(7), 1);
        Due.is("changes", office.count(2), 12);
        Due.is("the last told", office.told(0, 999, 2), 11);
    }
}
