import java.util.ArrayList;
import java.util.List;
import java.util.Map;
import java.util.Random;

/** Random runs of calls, held against the model. Arguments: how many runs, and from which seed on. */
public final class ModelTest {
    /** An object answers for 512 calls; what is drawn at once makes at most so many. */
    private static final int CALLS = 512, AT_ONCE = 25;
    private static final String[] TACTICS = {"0", "0;1", "0|1|2", "(0;1)*", "(0|1|2|3)*", "((0;1)*|2)*;3*", "0*;(1|(2;3)*)*",
        "7;0", "(3;2;1;0)*", "6*|5*|4*|(0|(1|(2|(3))))*"};
    private static final String[] RULES = {"s(a,b,c)>o(b,a,c)", "o(a,b,c)&s(a,d,b)&a#d>o(d,b,c)", "o(a,b,c)&c<3>l(a,b,c)",
        "h(a,b,c)&o(b,d,c)>o(a,d,c)", "o(a,b,c)&m(a,b,d)>w(a,b,d)", "l(a,b,c)&w(d,b,c)>o(a,b,c)", "o(a,b,c)>s(a,c,b)",
        "o(a,b,c)&o(d,b,c)&a<d>h(a,d,c)", "l(a,b,c)>o(c,b,a)", "w(a,b,c)&s(c,b,a)>m(a,a,a)", "m(a,a,b)>o(0,b,a)",
        "o(a,b,c)&s(a,b,d)&h(d,b,c)>l(c,d,a)", "s(a,b,c)&a#0>o(0,b,c)", "h(a,b,c)&h(c,b,a)&h(a,a,a)>o(a,b,c)"};
    private static final String[] OFTEN = {"rule", "rule", "change", "paper", "paper", "paper", "shown", "proof", "proof",
        "step", "step", "step", "step", "step", "step", "fill", "title", "title", "title", "tactic", "run", "found", "told",
        "of", "follows", "follows", "many", "lacks", "says", "check", "leans", "hole", "act", "as", "stand", "stand",
        "fall", "fall", "carry", "clash", "every", "enough", "could", "count", "day", "feed"};

    private final Random random;
    private final DeedProofs office = new DeedProofs();
    private final Model model = new Model();
    private final StringBuilder history = new StringBuilder();
    private final int size;
    private final int mostPapers;
    /** Whether rules are mostly such as bring more than random ones. */
    private final boolean sensible;
    private boolean agree = true;
    private int calls = 0;

    private ModelTest(long seed) {
        random = new Random(seed);
        size = 1 + random.nextInt(5);
        sensible = random.nextInt(4) != 0;
        mostPapers = random.nextBoolean() ? 21 : 3 + random.nextInt(8);
    }

    public static void main(String[] args) {
        int runs = args.length > 0 ? Integer.parseInt(args[0]) : 300;
        long seed = args.length > 1 ? Long.parseLong(args[1]) : 1;
        for (int i = 0; i < runs; i++) {
            ModelTest test = new ModelTest(seed + i);
            test.runAll();
            Due.is("run of seed " + (seed + i), test.agree ? 1 : 0, 1);
        }
        Due.end();
    }

    private void runAll() {
        for (int draws = 0; draws < CALLS && calls <= CALLS - AT_ONCE && agree; draws++) {
            int rare = random.nextInt(200);
            call(rare == 0 ? "image" : rare == 1 ? "undo" : OFTEN[random.nextInt(OFTEN.length)]);
        }
        if (!agree) {
            System.out.println(history);
        }
    }

    private void same(String call, int got, int want) {
        calls++;
        history.append(call).append(" = ").append(got).append('\n');
        if (got != want) {
            agree = false;
            history.append("the model says ").append(want).append('\n');
        }
    }

    // ---- arguments

    private int odd() {
        int[] odd = {-1, -2, 5, 8, 12, 20, 31, 750, 999, 1000, Integer.MAX_VALUE, Integer.MIN_VALUE, 1 << 30};
        return odd[random.nextInt(odd.length)];
    }

    /** Mostly one of the first numbers, now and then the next one, or an odd one. */
    private int number(int count) {
        int kind = random.nextInt(40);
        return kind == 0 ? odd() : kind == 1 || count == 0 ? count : random.nextInt(count);
    }

    private int someDay() {
        return random.nextInt(30) == 0 ? odd() : Math.min(999, random.nextInt(model.today + 20));
    }

    private int arg() {
        return random.nextInt(size);
    }

    private int fact() {
        if (random.nextInt(40) == 0) {
            return odd();
        }
        if (random.nextInt(3) == 0 && !model.titles.isEmpty()) {
            return model.titles.get(random.nextInt(model.titles.size())).fact();
        }
        return 125 * random.nextInt(6) + 25 * arg() + 5 * arg() + arg();
    }

    private int factThatFollows() {
        Map<Integer, Integer> heights = model.heightsToday();
        for (int tries = 0; tries < 60; tries++) {
            int fact = fact();
            if (heights.getOrDefault(fact, 0) > 0) {
                return fact;
            }
        }
        return fact();
    }

    // ---- texts

    private char letter() {
        return (char) ('a' + random.nextInt(4));
    }

    private char argument() {
        return random.nextInt(4) == 0 ? (char) ('0' + arg()) : letter();
    }

    private String term(String letters) {
        StringBuilder term = new StringBuilder().append("oshmlw".charAt(random.nextInt(6))).append('(');
        for (int i = 0; i < 3; i++) {
            boolean any = letters.isEmpty() || random.nextInt(5) == 0;
            char arg = any ? (char) ('0' + arg()) : letters.charAt(random.nextInt(letters.length()));
            term.append(arg).append(i < 2 ? ',' : ')');
        }
        return term.toString();
    }

    private String ruleText() {
        if (sensible && random.nextInt(8) != 0) {
            return RULES[random.nextInt(RULES.length)];
        }
        List<String> parts = new ArrayList<>();
        int terms = 1 + random.nextInt(random.nextInt(3) + 1);
        int tests = random.nextInt(random.nextInt(5) + 1);
        String all = "abcd".substring(0, 1 + random.nextInt(4));
        StringBuilder told = new StringBuilder();
        for (int i = 0; i < terms; i++) {
            String term = term(all);
            parts.add(term);
            told.append(term.replaceAll("[^abcd]", ""));
        }
        String letters = random.nextInt(12) == 0 ? "abcd" : told.toString();
        for (int i = 0; i < tests && !letters.isEmpty(); i++) {
            char left = letters.charAt(random.nextInt(letters.length()));
            char right = random.nextBoolean() ? (char) ('0' + arg()) : letters.charAt(random.nextInt(letters.length()));
            parts.add(random.nextInt(parts.size() + 1), "" + left + "<=##".charAt(random.nextInt(4)) + right);
        }
        if (random.nextInt(25) == 0) {
            parts.add(random.nextBoolean() ? term("abcd") : "" + letter() + '=' + argument());
        }
        return mangled(String.join("&", parts) + ">" + term(letters), "oshmlwabcd01234(),&><=#");
    }

    private String mangled(String text, String signs) {
        if (random.nextInt(10) != 0) {
            return text;
        }
        int at = random.nextInt(text.length() + 1);
        String sign = random.nextInt(8) == 0 ? "" + (char) random.nextInt(256) : "" + signs.charAt(random.nextInt(signs.length()));
        int kind = random.nextInt(4);
        if (kind == 0) {
            return text.substring(0, at);
        }
        String rest = text.substring(kind == 1 ? at : Math.min(text.length(), at + 1));
        return text.substring(0, at) + (kind == 3 ? "" : sign) + rest;
    }

    private String tacticText(int open) {
        if (open == 0 && random.nextInt(3) == 0) {
            return TACTICS[random.nextInt(TACTICS.length)];
        }
        StringBuilder text = new StringBuilder();
        int tries = 1 + random.nextInt(3);
        for (int i = 0; i < tries; i++) {
            text.append(i == 0 ? "" : random.nextBoolean() ? ";" : "|");
            boolean inside = random.nextInt(3) == 0 && open < 7;
            text.append(inside ? "(" + tacticText(open + 1) + ")" : "" + random.nextInt(8));
            text.append(random.nextInt(3) == 0 ? "*" : "");
        }
        return text.toString();
    }

    private void feedText(String text) {
        if (model.tape.length() + text.length() > 120) {
            same("rule()", office.rule(), model.rule());
            same("tactic()", office.tactic(), model.tactic());
            same("change(0, 999)", office.change(0, 999), model.change(0, 999));
        }
        for (int at = 0; at < text.length(); at += 8) {
            String part = text.substring(at, Math.min(text.length(), at + 8));
            long word = random.nextInt();
            for (char sign : part.toCharArray()) {
                word = word << 8 | sign;
            }
            same("feed(" + word + ", " + part.length() + ")", office.feed(word, part.length()),
                    model.feed(word, part.length()));
        }
        history.append("  // ").append(text).append('\n');
    }

    // ---- calls

    private void call(String name) {
        switch (name) {
            case "rule", "change", "tactic", "feed", "day", "told" -> callOfRules(name);
            case "paper", "shown", "of", "follows", "many" -> callOfPapers(name);
            case "proof", "step", "lacks", "says", "check" -> callOfProofs(name);
            case "leans", "hole", "fill", "act", "as" -> callOfHoles(name);
            case "title", "stand", "fall", "carry", "clash" -> callOfTitles(name);
            default -> callOfRest(name);
        }
    }

    private void callOfRules(String name) {
        int rule = number(model.rules.size());
        int day = someDay();
        switch (name) {
            case "rule" -> {
                feedText(ruleText());
                same("rule()", office.rule(), model.rule());
            }
            case "change" -> {
                feedText(ruleText());
                int from = random.nextInt(20) == 0 ? odd() : Math.min(999, model.today + random.nextInt(8));
                same("change(" + rule + ", " + from + ")", office.change(rule, from), model.change(rule, from));
            }
            case "tactic" -> {
                String text = mangled(tacticText(0), "01234567()*|;8");
                feedText(text.length() > 120 ? text.substring(0, 120) : text);
                same("tactic()", office.tactic(), model.tactic());
            }
            case "feed" -> {
                int n = number(9);
                long word = random.nextLong();
                if (random.nextInt(4) == 0) {
                    same("feed(" + word + ", " + n + ")", office.feed(word, n), model.feed(word, n));
                }
            }
            case "day" -> {
                int n = random.nextInt(5) == 0 ? odd() : random.nextInt(10) == 0 ? random.nextInt(120) : 1 + random.nextInt(3);
                same("day(" + n + ")", office.day(n), model.day(n));
            }
            default -> {
                int what = number(3);
                same("told(" + rule + ", " + day + ", " + what + ")", office.told(rule, day, what), model.told(rule, day, what));
            }
        }
    }

    private void callOfPapers(String name) {
        int paper = number(model.papers.size());
        int what = number(3);
        int fact = random.nextBoolean() ? fact() : factThatFollows();
        int day = someDay();
        switch (name) {
            case "paper" -> {
                if (model.papers.size() >= mostPapers) {
                    return;
                }
                int person = number(5);
                same("paper(" + fact + ", " + person + ")", office.paper(fact, person), model.paper(fact, person));
            }
            case "shown" -> {
                boolean so = random.nextInt(3) == 0;
                same("shown(" + paper + ", " + so + ")", office.shown(paper, so), model.shown(paper, so));
            }
            case "of" -> same("of(" + paper + ", " + what + ")", office.of(paper, what), model.of(paper, what));
            case "follows" -> same("follows(" + fact + ", " + day + ", " + what + ")", office.follows(fact, day, what),
                    model.follows(fact, day, what));
            default -> same("many(" + day + ")", office.many(day), model.many(day));
        }
    }

    private void callOfProofs(String name) {
        int proof = number(model.proofs.size());
        int steps = proof >= 0 && proof < model.proofs.size() ? model.proofs.get(proof).steps().size() : 0;
        int step = number(steps);
        int day = someDay();
        switch (name) {
            case "proof" -> {
                int kind = number(5);
                same("proof(" + kind + ")", office.proof(kind), model.proof(kind));
            }
            case "step" -> callStep(proof);
            case "lacks" -> same("lacks(" + proof + ", " + step + ", " + day + ")", office.lacks(proof, step, day),
                    model.lacks(proof, step, day));
            case "says" -> {
                int which = random.nextInt(3) == 0 ? -1 : step;
                same("says(" + proof + ", " + which + ", " + day + ")", office.says(proof, which, day),
                        model.says(proof, which, day));
            }
            default -> same("check(" + proof + ", " + day + ")", office.check(proof, day), model.check(proof, day));
        }
    }

    private int anySource() {
        int[] from = {random.nextInt(20), 100 + random.nextInt(13), 200 + random.nextInt(13), 300, odd()};
        return from[random.nextInt(20) == 0 ? 4 : random.nextInt(4)];
    }

    private void callStep(int proof) {
        int rule = number(model.rules.size());
        int letters = random.nextInt(30) == 0 ? odd() : random.nextInt(625);
        int terms = random.nextInt(30) == 0 ? odd() : 1 + random.nextInt(3);
        int[] from = {anySource(), anySource(), anySource()};
        boolean there = proof >= 0 && proof < model.proofs.size() && rule >= 0 && rule < model.rules.size();
        if (there && random.nextInt(15) != 0) {
            terms = model.told(rule, model.today, 0);
            letters = goodLetters(proof, rule, from);
        }
        same("step(" + proof + ", " + rule + ", " + letters + ", " + terms + ", " + from[0] + ", " + from[1] + ", " + from[2]
                + ")", office.step(proof, rule, letters, terms, from[0], from[1], from[2]),
                model.step(proof, rule, letters, terms, from[0], from[1], from[2]));
    }

    /** Letters by which a rule's terms can be had, and from what; any letters if there are none such. */
    private int goodLetters(int proof, int rule, int[] from) {
        String text = model.textOn(rule, model.today);
        String[] parts = text.substring(0, text.indexOf('>')).split("&");
        int start = random.nextInt(625);
        for (int i = 0; i < 625; i++) {
            int letters = (start + i * 7) % 625;
            int k = Model.hold(text, letters) ? 0 : 9;
            for (String part : parts) {
                if (part.contains("(") && k < 3) {
                    int source = sourceOf(proof, Model.factOf(part, letters));
                    if (source < 0) {
                        k = 9;
                        break;
                    }
                    from[k] = source;
                    k++;
                }
            }
            if (k < 9) {
                return letters;
            }
        }
        return start;
    }

    private int sourceOf(int proof, int fact) {
        List<Integer> sources = new ArrayList<>();
        for (int p = 0; p < model.papers.size(); p++) {
            if (model.papers.get(p).fact() == fact) {
                sources.add(p);
            }
        }
        for (int s = 0; s < model.proofs.get(proof).steps().size(); s++) {
            if (model.sayingOf(proof, s, model.today) == fact) {
                sources.add(100 + s);
            }
        }
        for (int q = 0; q < proof; q++) {
            if (model.says(q, -1, model.today) == fact) {
                sources.add(200 + q);
            }
        }
        int kind = model.proofs.get(proof).kind();
        if ((kind == 1 || kind == 4) && (sources.isEmpty() ? random.nextInt(300) == 0 : random.nextInt(3) == 0)) {
            return 300;
        }
        return sources.isEmpty() ? -1 : sources.get(random.nextInt(sources.size()));
    }

    /** What would fill the first hole of a proof, if there is such. */
    private int fillingOf(int proof) {
        int place = model.hole(proof, 0);
        if (place < 0 || random.nextInt(5) == 0) {
            return anySource();
        }
        Model.Step step = model.proofs.get(proof).steps().get(place / 10);
        List<String> terms = Model.terms(model.textOn(step.rule(), model.today));
        if (place % 10 >= terms.size()) {
            return anySource();
        }
        int source = 300;
        for (int tries = 0; tries < 9 && source >= 200; tries++) {
            source = sourceOf(proof, Model.factOf(terms.get(place % 10), step.letters()));
        }
        return source < 0 ? anySource() : source;
    }

    private void callOfHoles(String name) {
        int proof = number(model.proofs.size());
        switch (name) {
            case "leans" -> same("leans(" + proof + ")", office.leans(proof), model.leans(proof));
            case "hole" -> {
                int i = random.nextInt(4) - 1;
                same("hole(" + proof + ", " + i + ")", office.hole(proof, i), model.hole(proof, i));
            }
            case "fill" -> {
                for (int tries = 0; tries < 3; tries++) {
                    int from = fillingOf(proof);
                    same("fill(" + proof + ", " + from + ")", office.fill(proof, from), model.fill(proof, from));
                }
            }
            case "act" -> {
                int act = number(3);
                int x = random.nextInt();
                same("act(" + proof + ", " + act + ", " + x + ")", office.act(proof, act, x), model.act(proof, act, x));
            }
            default -> {
                int k = number(5);
                same("as(" + proof + ", " + k + ")", office.as(proof, k), model.as(proof, k));
            }
        }
    }

    private void callOfTitles(String name) {
        int title = number(model.titles.size());
        int other = number(model.titles.size());
        int proof = number(model.proofs.size());
        for (int tries = 0; tries < 5 && model.check(proof, model.today) == 0; tries++) {
            proof = number(model.proofs.size());
        }
        int paper = number(model.papers.size());
        int day = random.nextInt(3) == 0 ? someDay() : Math.min(999, model.today + random.nextInt(9));
        switch (name) {
            case "title" -> same("title(" + proof + ")", office.title(proof), model.title(proof));
            case "stand" -> same("stand(" + title + ", " + day + ")", office.stand(title, day), model.stand(title, day));
            case "fall" -> same("fall(" + paper + ")", office.fall(paper), model.fall(paper));
            case "carry" -> same("carry(" + title + ", " + day + ")", office.carry(title, day), model.carry(title, day));
            default -> same("clash(" + title + ", " + other + ")", office.clash(title, other), model.clash(title, other));
        }
    }

    private void callOfRest(String name) {
        int fact = random.nextInt(3) == 0 ? fact() : factThatFollows();
        switch (name) {
            case "every" -> same("every(" + fact + ")", office.every(fact), model.every(fact));
            case "enough" -> {
                int bits = 0;
                for (int i = 0; i < 7; i++) {
                    int paper = random.nextInt(Math.max(1, model.papers.size()));
                    bits |= model.of(paper, 2) == 0 || random.nextInt(15) == 0 ? 1 << paper : 0;
                }
                bits = random.nextInt(30) == 0 ? odd() : bits;
                same("enough(" + fact + ", " + bits + ")", office.enough(fact, bits), model.enough(fact, bits));
            }
            case "could" -> {
                int person = number(5);
                same("could(" + person + ", " + fact + ")", office.could(person, fact), model.could(person, fact));
            }
            case "run" -> {
                int tactic = number(model.tactics.size());
                int n = random.nextInt(10) == 0 ? random.nextInt(220) : 1 + random.nextInt(20);
                int what = number(2);
                same("run(" + tactic + ", " + n + ", " + what + ")", office.run(tactic, n, what), model.run(tactic, n, what));
            }
            case "found" -> same("found(" + fact + ")", office.found(fact), model.found(fact));
            case "image" -> same("image()", office.image(), model.image());
            case "undo" -> same("undo()", office.undo(), model.undo());
            default -> {
                int what = number(8);
                same("count(" + what + ")", office.count(what), model.count(what));
            }
        }
    }
}
