/** All that can be seen of an office without changing it, as a text: for what must change nothing. */
final class Picture {
    private Picture() {
    }

    static String of(DeedProofs office) {
        StringBuilder seen = new StringBuilder();
        for (int what = 0; what < 8; what++) {
            seen.append(office.count(what)).append(' ');
        }
        rulesAndPapers(office, seen);
        proofsAndTitles(office, seen);
        for (int fact = 0; fact < 750; fact++) {
            seen.append(office.found(fact));
        }
        return seen.toString();
    }

    private static void rulesAndPapers(DeedProofs office, StringBuilder seen) {
        int[] days = {0, office.count(0), 999};
        for (int day : days) {
            seen.append("\nmany ").append(office.many(day));
            for (int rule = 0; rule < office.count(1); rule++) {
                for (int what = 0; what < 3; what++) {
                    seen.append(' ').append(office.told(rule, day, what));
                }
            }
        }
        for (int paper = 0; paper < office.count(3); paper++) {
            seen.append("\npaper ").append(office.of(paper, 0)).append(' ').append(office.of(paper, 1)).append(' ')
                    .append(office.of(paper, 2));
        }
    }

    private static void proofsAndTitles(DeedProofs office, StringBuilder seen) {
        int today = office.count(0);
        for (int proof = 0; proof < office.count(4); proof++) {
            seen.append("\nproof ").append(office.leans(proof)).append(' ').append(office.check(proof, today));
            for (int kind = 0; kind < 5; kind++) {
                seen.append(' ').append(office.as(proof, kind));
            }
            for (int step = 0; step < office.as(proof, 0); step++) {
                seen.append(' ').append(office.says(proof, step, today)).append(' ')
                        .append(office.lacks(proof, step, today));
            }
            for (int hole = -1; hole < office.hole(proof, -1); hole++) {
                seen.append(' ').append(office.hole(proof, hole));
            }
        }
        for (int title = 0; title < office.count(5); title++) {
            seen.append("\ntitle ").append(office.stand(title, 999)).append(' ').append(office.carry(title, 0));
            for (int other = 0; other < office.count(5); other++) {
                seen.append(' ').append(office.clash(title, other));
            }
        }
    }
}
