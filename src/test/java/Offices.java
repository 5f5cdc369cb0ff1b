import java.util.function.BiConsumer;
import java.util.function.Consumer;
import java.util.function.Supplier;

/** Offices that tests begin with: each call makes one anew, alike to those that it made before. */
final class Offices {
    static final int LINE = 0, PIECE = 1, SHARED = 2, CUT = 3, OPEN = 4;
    /** In an office that has some of all there is: PROOFS that show what their names say. */
    static final int TITLED = 0, WITH_HOLES = 1, WITHOUT_STEPS = 3, LACKING = 5, OF_A_TITLES_FACT = 6, USED_AS_AN_END = 7;

    private Offices() {
    }

    /** What a making gives, after some calls more. */
    static Supplier<DeedProofs> then(Supplier<DeedProofs> making, Consumer<DeedProofs> more) {
        return () -> {
            DeedProofs office = making.get();
            more.accept(office);
            return office;
        };
    }

    /** A STEP with as many TERMS as it is told sources; those beyond are odd. */
    static int step(DeedProofs office, int proof, int rule, String letters, int... from) {
        return office.step(proof, rule, Due.letters(letters), from.length, from[0],
                from.length > 1 ? from[1] : Integer.MIN_VALUE, from.length > 2 ? from[2] : Integer.MAX_VALUE);
    }

    /**
     * Some of all there is, with an empty tape: 3 RULES, 1 change, 4 PAPERS (number 2 is FALSE), 9 PROOFS, 2 TITLES
     * (of DAY 4), 1 TACTIC, which ran; THE IMAGE is of DAY 4, TODAY is 5.
     */
    static DeedProofs some() {
        DeedProofs office = unrun();
        office.run(0, 3, 0);
        office.image();
        office.day(1);
        return office;
    }

    /** The same on DAY 4, ahead of the run and of THE IMAGE. */
    static DeedProofs unrun() {
        DeedProofs office = new DeedProofs();
        Due.rule(office, "s(a,b,c)>o(b,a,c)");
        Due.rule(office, "o(a,b,c)&h(d,d,d)&a#d>l(a,b,c)");
        Due.rule(office, "h(a,b,c)>w(a,b,c)");
        office.paper(Due.fact("s123"), 0);
        office.paper(Due.fact("h000"), 1);
        office.paper(Due.fact("o213"), 1);
        office.paper(Due.fact("s004"), 4);
        office.shown(2, true);
        office.day(4);
        Due.change(office, 1, 6, "o(a,b,c)>l(a,b,c)");
        someProofs(office);
        office.title(0);
        office.title(2);
        Due.tactic(office, "(0;1)*");
        return office;
    }

    private static void someProofs(DeedProofs office) {
        int[] kinds = {LINE, PIECE, SHARED, CUT, OPEN, LINE, LINE, LINE, CUT};
        for (int kind : kinds) {
            office.proof(kind);
        }
        step(office, TITLED, 0, "1230", 0);
        step(office, WITH_HOLES, 1, "2130", 300, 300);
        step(office, 2, 1, "2130", 200, 1);
        step(office, 4, 0, "4440", 300);
        step(office, LACKING, 0, "3210", 0);
        step(office, OF_A_TITLES_FACT, 0, "1234", 0);
        step(office, USED_AS_AN_END, 0, "1230", 0);
        step(office, 8, 1, "2130", 207, 1);
    }

    /** The same with a RULE's text on THE TAPE. */
    static DeedProofs someWithTape() {
        return someAnd(office -> { }).get();
    }

    /** Some of all there is and what comes by these calls, with a RULE's text on THE TAPE. */
    static Supplier<DeedProofs> someAnd(Consumer<DeedProofs> more) {
        return then(then(Offices::some, more), office -> Due.feed(office, "s(a,b,c)>l(b,a,c)"));
    }

    /** A call again and again, with 0 and so on. */
    static Consumer<DeedProofs> times(int count, BiConsumer<DeedProofs, Integer> call) {
        return office -> {
            for (int i = 0; i < count; i++) {
                call.accept(office, i);
            }
        };
    }

    /**
     * As much of all as there may be, on DAY 999: PROOFS 0 to 9 have TITLES, 10 is TAKEN and has none, 11 has 12 STEPS
     * that say the FACT of TITLE 0.
     */
    static DeedProofs full() {
        DeedProofs office = fullButTape();
        for (int i = 0; i < 15; i++) {
            Due.feed(office, "xxxxxxxx");
        }
        return office;
    }

    static DeedProofs fullButTape() {
        DeedProofs office = new DeedProofs();
        for (int i = 0; i < 7; i++) {
            Due.rule(office, "h(a,b,c)>m(b,a,c)");
        }
        fillRules(office, 1);
        for (int i = 0; i < 12; i++) {
            Due.change(office, 7, 999, "s(a,b,c)>o(b,a,c)");
        }
        for (int i = 0; i < 20; i++) {
            office.paper(Due.fact("s000") + i, i % 5);
        }
        for (int i = 0; i < 12; i++) {
            office.proof(LINE);
            for (int s = 0; s < (i == 11 ? 12 : 1); s++) {
                step(office, i, 7, i == 11 ? "0000" : "0" + i / 5 + i % 5 + "0", i == 11 ? 0 : i);
            }
        }
        for (int i = 0; i < 10; i++) {
            office.title(i);
        }
        for (int i = 0; i < 6; i++) {
            Due.tactic(office, "7");
        }
        office.run(5, 1, 0);
        office.image();
        for (int i = 0; i < 10; i++) {
            office.day(99);
        }
        office.day(9);
        return office;
    }

    static void fillRules(DeedProofs office, int count) {
        for (int i = 0; i < count; i++) {
            Due.rule(office, "s(a,b,c)>o(b,a,c)");
        }
    }
}
