import java.util.function.Supplier;

/**
 * All that can be seen of an office, as a text: for what must change nothing.
 * An object answers for 512 calls, so each part is asked of one that is made anew.
 */
final class Picture {
    private static final int PARTS = 8, FIRST_SLICE = 5, SLICE = 250;

    private Picture() {
    }

    static String of(Supplier<DeedProofs> making) {
        StringBuilder seen = new StringBuilder();
        for (int part = 0; part < PARTS; part++) {
            DeedProofs office = making.get();
            seen.append("\n# ");
            switch (part) {
                case 0 -> rulesAndPapers(office, seen);
                case 1 -> proofs(office, seen);
                case 2 -> titles(office, seen);
                case 3 -> tacticsAndTape(office, seen);
                case 4 -> image(office, seen);
                default -> found(office, (part - FIRST_SLICE) * SLICE, seen);
            }
        }
        return seen.toString();
    }

    private static void put(StringBuilder seen, int... answers) {
        for (int answer : answers) {
            seen.append(answer).append(' ');
        }
    }

    private static void counts(DeedProofs office, StringBuilder seen) {
        for (int what = 0; what < 8; what++) {
            put(seen, office.count(what));
        }
    }

    private static void rulesAndPapers(DeedProofs office, StringBuilder seen) {
        counts(office, seen);
        int[] days = {0, office.count(0), 999};
        for (int day : days) {
            put(seen, office.many(day));
            for (int rule = 0; rule < office.count(1); rule++) {
                put(seen, office.told(rule, day, 0), office.told(rule, day, 1), office.told(rule, day, 2));
            }
        }
        for (int paper = 0; paper < office.count(3); paper++) {
            put(seen, office.of(paper, 0), office.of(paper, 1), office.of(paper, 2));
        }
    }

    private static void proofs(DeedProofs office, StringBuilder seen) {
        int today = office.count(0);
        for (int proof = 0; proof < office.count(4); proof++) {
            put(seen, office.leans(proof), office.check(proof, today), office.check(proof, 999));
            for (int kind = 0; kind < 5; kind++) {
                put(seen, office.as(proof, kind));
            }
            for (int step = 0; step < office.as(proof, 0); step++) {
                put(seen, office.says(proof, step, today), office.lacks(proof, step, today), office.lacks(proof, step, 999));
            }
            for (int hole = -1; hole < office.hole(proof, -1); hole++) {
                put(seen, office.hole(proof, hole));
            }
        }
    }

    private static void titles(DeedProofs office, StringBuilder seen) {
        for (int title = 0; title < office.count(5); title++) {
            int today = office.count(0);
            put(seen, office.stand(title, 0), office.stand(title, today - 1), office.stand(title, today),
                    office.stand(title, 999), office.carry(title, 0));
            for (int other = 0; other < office.count(5); other++) {
                put(seen, office.clash(title, other));
            }
        }
    }

    /** A tactic and the tape's bytes can be seen by using them alone. */
    private static void tacticsAndTape(DeedProofs office, StringBuilder seen) {
        for (int tactic = 0; tactic < office.count(6); tactic++) {
            put(seen, office.run(tactic, 200, 0), office.run(tactic, 200, 1));
        }
        put(seen, office.rule(), office.change(0, 999), office.tactic());
        counts(office, seen);
        put(seen, office.many(office.count(0)), office.many(999));
    }

    private static void image(DeedProofs office, StringBuilder seen) {
        put(seen, office.undo());
        rulesAndPapers(office, seen);
        put(seen, office.found(0), office.rule(), office.many(999));
    }

    private static void found(DeedProofs office, int from, StringBuilder seen) {
        for (int fact = from; fact < from + SLICE; fact++) {
            put(seen, office.found(fact));
        }
    }
}
