import java.util.ArrayList;
import java.util.HashMap;
import java.util.HashSet;
import java.util.List;
import java.util.Map;
import java.util.Set;
import java.util.regex.Matcher;
import java.util.regex.Pattern;

/**
 * The document once more, as plainly and slowly as can be and by other means than the class: texts are read by
 * patterns, what follows is found by rounds over all letters, tactics are trees. Random runs are held against it.
 */
final class Model {
    static final int NONE = -1, BAD = -2, STATE = -3, FULL = -4;
    private static final String SHAPES = "oshmlw";
    private static final List<Pattern> RULES = rulePatterns();
    private static final Pattern TACTIC = Pattern.compile(tacticPattern(6));
    private static final int[] ABOVE = {-1, 0, 0, 0, 1};

    /** A rule's change: which rule, from which day, and the text. */
    record Change(int rule, int day, String text) {
    }

    record Paper(int fact, int person) {
    }

    record Step(int rule, int letters, List<Integer> from) {
    }

    record Proof(int kind, List<Step> steps) {
    }

    record Title(int proof, int fact, int day) {
    }

    int today = 0;
    String tape = "";
    List<String> rules = new ArrayList<>();
    List<Change> changes = new ArrayList<>();
    List<Paper> papers = new ArrayList<>();
    Set<Integer> falseOnes = new HashSet<>();
    List<Proof> proofs = new ArrayList<>();
    List<Title> titles = new ArrayList<>();
    List<String> tactics = new ArrayList<>();
    Set<Integer> found = null;
    private Model kept = null;

    private void become(Model other) {
        today = other.today;
        tape = other.tape;
        rules = new ArrayList<>(other.rules);
        changes = new ArrayList<>(other.changes);
        papers = new ArrayList<>(other.papers);
        falseOnes = new HashSet<>(other.falseOnes);
        proofs = new ArrayList<>();
        for (Proof proof : other.proofs) {
            proofs.add(new Proof(proof.kind, new ArrayList<>(proof.steps)));
        }
        titles = new ArrayList<>(other.titles);
        tactics = new ArrayList<>(other.tactics);
        found = other.found == null ? null : new HashSet<>(other.found);
    }

    // ---- texts

    private static List<Pattern> rulePatterns() {
        List<String> orders = new ArrayList<>(List.of(""));
        for (int at = 0; at < orders.size(); at++) {
            String order = orders.get(at);
            long terms = order.chars().filter(c -> c == 'T').count();
            if (terms < 3) {
                orders.add(order + "T");
            }
            if (order.length() - terms < 4) {
                orders.add(order + "X");
            }
        }
        List<Pattern> patterns = new ArrayList<>();
        String term = "[oshmlw]\\([abcd0-4],[abcd0-4],[abcd0-4]\\)";
        for (String order : orders) {
            if (order.contains("T")) {
                List<String> parts = new ArrayList<>();
                for (char part : order.toCharArray()) {
                    parts.add(part == 'T' ? term : "[abcd][<=#][abcd0-4]");
                }
                patterns.add(Pattern.compile(String.join("&", parts) + ">" + term));
            }
        }
        return patterns;
    }

    private static String tacticPattern(int open) {
        String one = open == 0 ? "[0-7]\\*?" : "(?:[0-7]|\\(" + tacticPattern(open - 1) + "\\))\\*?";
        return one + "(?:[;|]" + one + ")*";
    }

    private static boolean canGoOn(List<Pattern> patterns, String start) {
        for (Pattern pattern : patterns) {
            Matcher matcher = pattern.matcher(start);
            if (matcher.matches() || matcher.hitEnd()) {
                return true;
            }
        }
        return false;
    }

    private static int faultOf(List<Pattern> patterns, String text) {
        for (int size = 1; size <= text.length(); size++) {
            if (!canGoOn(patterns, text.substring(0, size))) {
                return size - 1;
            }
        }
        for (Pattern pattern : patterns) {
            if (pattern.matcher(text).matches()) {
                return -1;
            }
        }
        return text.length();
    }

    private static int ruleFault(String text) {
        int fault = faultOf(RULES, text);
        if (fault >= 0) {
            return fault;
        }
        StringBuilder told = new StringBuilder();
        StringBuilder asked = new StringBuilder(end(text));
        terms(text).forEach(told::append);
        tests(text).forEach(asked::append);
        for (char letter : "abcd".toCharArray()) {
            if (asked.indexOf("" + letter) >= 0 && told.indexOf("" + letter) < 0) {
                return 200;
            }
        }
        return -1;
    }

    private static String end(String rule) {
        return rule.substring(rule.indexOf('>') + 1);
    }

    private static List<String> parts(String rule, boolean terms) {
        List<String> parts = new ArrayList<>();
        for (String part : rule.substring(0, rule.indexOf('>')).split("&")) {
            if (terms == part.contains("(")) {
                parts.add(part);
            }
        }
        return parts;
    }

    static List<String> terms(String rule) {
        return parts(rule, true);
    }

    private static List<String> tests(String rule) {
        return parts(rule, false);
    }

    private static int value(char arg, int letters) {
        int[] places = {125, 25, 5, 1};
        return arg <= '4' ? arg - '0' : letters / places[arg - 'a'] % 5;
    }

    static int factOf(String term, int letters) {
        return 125 * SHAPES.indexOf(term.charAt(0)) + 25 * value(term.charAt(2), letters)
                + 5 * value(term.charAt(4), letters) + value(term.charAt(6), letters);
    }

    static boolean hold(String rule, int letters) {
        for (String test : tests(rule)) {
            int left = value(test.charAt(0), letters);
            int right = value(test.charAt(2), letters);
            char sign = test.charAt(1);
            if (sign == '<' && left >= right || sign == '=' && left != right || sign == '#' && left == right) {
                return false;
            }
        }
        return true;
    }

    int changeOn(int rule, int day) {
        int best = -5;
        for (int at = 0; at <= day; at++) {
            for (int c = 0; c < changes.size(); c++) {
                if (changes.get(c).rule == rule && changes.get(c).day == at) {
                    best = c;
                }
            }
        }
        return best;
    }

    String textOn(int rule, int day) {
        int change = changeOn(rule, day);
        return change < 0 ? rules.get(rule) : changes.get(change).text;
    }

    // ---- the calls

    int day(int n) {
        if (n < 1 || n > 99 || today + n > 999) {
            return BAD;
        }
        today += n;
        return today;
    }

    int feed(long w, int n) {
        if (n < 1 || n > 8) {
            return BAD;
        }
        if (tape.length() + n > 120) {
            return FULL;
        }
        StringBuilder bytes = new StringBuilder();
        for (int i = 0; i < n; i++) {
            bytes.insert(0, (char) (w >> 8 * i & 255));
        }
        tape += bytes;
        return tape.length();
    }

    private String takeTape() {
        String text = tape;
        tape = "";
        return text;
    }

    int rule() {
        if (rules.size() == 8) {
            return FULL;
        }
        String text = takeTape();
        if (ruleFault(text) >= 0) {
            return -10 - ruleFault(text);
        }
        rules.add(text);
        return rules.size() - 1;
    }

    int change(int rule, int day) {
        if (!in(rule, rules.size())) {
            return NONE;
        }
        if (day < today || day > 999) {
            return BAD;
        }
        if (changes.size() == 12) {
            return FULL;
        }
        String text = takeTape();
        if (ruleFault(text) >= 0) {
            return -10 - ruleFault(text);
        }
        changes.add(new Change(rule, day, text));
        return changes.size();
    }

    int told(int rule, int day, int what) {
        if (!in(rule, rules.size()) || !in(what, 3)) {
            return NONE;
        }
        if (!in(day, 1000)) {
            return BAD;
        }
        String text = textOn(rule, day);
        return what == 0 ? terms(text).size() : what == 1 ? tests(text).size() : changeOn(rule, day);
    }

    int paper(int fact, int person) {
        if (!in(person, 5)) {
            return NONE;
        }
        if (!in(fact, 750)) {
            return BAD;
        }
        if (papers.size() == 20) {
            return FULL;
        }
        papers.add(new Paper(fact, person));
        return papers.size() - 1;
    }

    int shown(int paper, boolean so) {
        if (!in(paper, papers.size())) {
            return NONE;
        }
        boolean was = so ? !falseOnes.add(paper) : falseOnes.remove(paper);
        return was ? 1 : 0;
    }

    int of(int paper, int what) {
        if (!in(paper, papers.size()) || !in(what, 3)) {
            return NONE;
        }
        Paper told = papers.get(paper);
        return what == 0 ? told.fact : what == 1 ? told.person : falseOnes.contains(paper) ? 1 : 0;
    }

    private static boolean in(int number, int size) {
        return number >= 0 && number < size;
    }

    private Set<Integer> good() {
        Set<Integer> good = new HashSet<>();
        for (int p = 0; p < papers.size(); p++) {
            if (!falseOnes.contains(p)) {
                good.add(p);
            }
        }
        return good;
    }

    /** One use of a rule: the end, and the facts of its terms. */
    private record Use(int end, List<Integer> terms) {
    }

    private final Map<String, List<Use>> usesOfTexts = new HashMap<>();

    private List<Use> usesOf(String text) {
        return usesOfTexts.computeIfAbsent(text, Model::allUses);
    }

    private static List<Use> allUses(String text) {
        Set<Use> uses = new java.util.LinkedHashSet<>();
        for (int letters = 0; letters < 625; letters++) {
            if (hold(text, letters)) {
                List<Integer> facts = new ArrayList<>();
                for (String term : terms(text)) {
                    facts.add(factOf(term, letters));
                }
                uses.add(new Use(factOf(end(text), letters), facts));
            }
        }
        return new ArrayList<>(uses);
    }

    private List<Use> usesOn(int day) {
        List<Use> uses = new ArrayList<>();
        for (int r = 0; r < rules.size(); r++) {
            uses.addAll(usesOf(textOn(r, day)));
        }
        return uses;
    }

    private Set<Integer> factsOf(Set<Integer> some) {
        Set<Integer> facts = new HashSet<>();
        for (int p : some) {
            facts.add(papers.get(p).fact);
        }
        return facts;
    }

    /** Heights by rounds: a round's facts come by those of the rounds ahead alone. */
    private Map<Integer, Integer> heights(int day, Set<Integer> some) {
        Map<Integer, Integer> heights = new HashMap<>();
        for (int fact : factsOf(some)) {
            heights.put(fact, 0);
        }
        List<Use> uses = usesOn(day);
        for (int round = 1; true; round++) {
            Set<Integer> fresh = new HashSet<>();
            for (Use use : uses) {
                if (!heights.containsKey(use.end) && heights.keySet().containsAll(use.terms)) {
                    fresh.add(use.end);
                }
            }
            if (fresh.isEmpty()) {
                return heights;
            }
            for (int fact : fresh) {
                heights.put(fact, round);
            }
        }
    }

    /** Of what follows today, how high it is. */
    Map<Integer, Integer> heightsToday() {
        return heights(today, good());
    }

    /** Sizes by lowering them till none can be lowered. */
    private Map<Integer, Integer> sizes(int day) {
        Map<Integer, Integer> sizes = new HashMap<>();
        for (int fact : factsOf(good())) {
            sizes.put(fact, 1);
        }
        List<Use> uses = usesOn(day);
        boolean lowered = true;
        while (lowered) {
            lowered = false;
            for (Use use : uses) {
                if (sizes.keySet().containsAll(use.terms)) {
                    int sum = 1;
                    for (int fact : use.terms) {
                        sum += sizes.get(fact);
                    }
                    sum = Math.min(sum, 100000);
                    if (sum < sizes.getOrDefault(use.end, Integer.MAX_VALUE)) {
                        sizes.put(use.end, sum);
                        lowered = true;
                    }
                }
            }
        }
        return sizes;
    }

    private boolean followsBy(int fact, int day, Set<Integer> some) {
        return heights(day, some).containsKey(fact);
    }

    int follows(int fact, int day, int what) {
        if (!in(what, 3)) {
            return NONE;
        }
        if (!in(fact, 750) || !in(day, 1000)) {
            return BAD;
        }
        if (what == 0) {
            return followsBy(fact, day, good()) ? 1 : 0;
        }
        return (what == 1 ? heights(day, good()) : sizes(day)).getOrDefault(fact, -5);
    }

    int many(int day) {
        return in(day, 1000) ? heights(day, good()).size() : BAD;
    }

    // ---- proofs

    int proof(int kind) {
        if (!in(kind, 5)) {
            return NONE;
        }
        if (proofs.size() == 12) {
            return FULL;
        }
        proofs.add(new Proof(kind, new ArrayList<>()));
        return proofs.size() - 1;
    }

    int step(int proof, int rule, int letters, int terms, int first, int second, int third) {
        if (!in(proof, proofs.size()) || !in(rule, rules.size())) {
            return NONE;
        }
        if (!in(letters, 625) || terms < 1 || terms > 3) {
            return BAD;
        }
        for (Title title : titles) {
            if (title.proof == proof) {
                return STATE;
            }
        }
        for (Proof later : proofs.subList(proof + 1, proofs.size())) {
            for (Step step : later.steps) {
                if (takesEnds(later) && step.from.contains(200 + proof)) {
                    return STATE;
                }
            }
        }
        List<Step> steps = proofs.get(proof).steps;
        if (steps.size() == 12) {
            return FULL;
        }
        steps.add(new Step(rule, letters, List.of(first, second, third).subList(0, terms)));
        return steps.size() - 1;
    }

    private static boolean takesEnds(Proof proof) {
        return proof.kind == 2 || proof.kind == 3;
    }

    int sayingOf(int proof, int step, int day) {
        Step told = proofs.get(proof).steps.get(step);
        return factOf(end(textOn(told.rule, day)), told.letters);
    }

    private int lackOf(int proof, int step, int day, Set<Integer> some, Map<Integer, Boolean> known) {
        Step told = proofs.get(proof).steps.get(step);
        String text = textOn(told.rule, day);
        List<String> terms = terms(text);
        if (terms.size() != told.from.size()) {
            return 1;
        }
        if (!hold(text, told.letters)) {
            return 2;
        }
        for (int k = 0; k < terms.size(); k++) {
            int want = factOf(terms.get(k), told.letters);
            int from = told.from.get(k);
            int kind = proofs.get(proof).kind;
            boolean fits = false;
            if (in(from, 20)) {
                fits = some.contains(from) && papers.get(from).fact == want;
            } else if (in(from - 100, step)) {
                fits = lackOf(proof, from - 100, day, some, known) == 0 && sayingOf(proof, from - 100, day) == want;
            } else if (in(from - 200, proof) && (kind == 2 || kind == 3)) {
                int q = from - 200;
                fits = taken(q, day, some, known) && sayingOf(q, proofs.get(q).steps.size() - 1, day) == want;
            } else if (from == 300) {
                fits = kind == 1 || kind == 4;
            }
            if (!fits) {
                return 10 + k;
            }
        }
        return 0;
    }

    private boolean taken(int proof, int day, Set<Integer> some, Map<Integer, Boolean> known) {
        if (!known.containsKey(proof)) {
            Proof told = proofs.get(proof);
            boolean good = !told.steps.isEmpty() && (told.kind == 4 || holesOf(proof).isEmpty());
            for (int s = 0; good && s < told.steps.size(); s++) {
                good = lackOf(proof, s, day, some, known) == 0;
            }
            known.put(proof, good);
        }
        return known.get(proof);
    }

    boolean isTaken(int proof, int day, Set<Integer> some) {
        return taken(proof, day, some, new HashMap<>());
    }

    int lacks(int proof, int step, int day) {
        if (!in(proof, proofs.size()) || !in(step, proofs.get(proof).steps.size())) {
            return NONE;
        }
        return in(day, 1000) ? lackOf(proof, step, day, good(), new HashMap<>()) : BAD;
    }

    int says(int proof, int step, int day) {
        if (!in(proof, proofs.size()) || step != -1 && !in(step, proofs.get(proof).steps.size())) {
            return NONE;
        }
        if (!in(day, 1000)) {
            return BAD;
        }
        int steps = proofs.get(proof).steps.size();
        if (step == -1 && steps == 0) {
            return -5;
        }
        return sayingOf(proof, step == -1 ? steps - 1 : step, day);
    }

    int check(int proof, int day) {
        if (!in(proof, proofs.size())) {
            return NONE;
        }
        return !in(day, 1000) ? BAD : isTaken(proof, day, good()) ? 1 : 0;
    }

    private Set<Integer> leaning(int proof) {
        Set<Integer> leaning = new HashSet<>();
        Set<Integer> ends = new HashSet<>();
        for (Step step : proofs.get(proof).steps) {
            for (int from : step.from) {
                if (in(from, papers.size())) {
                    leaning.add(from);
                }
                if (takesEnds(proofs.get(proof)) && in(from - 200, proof) && ends.add(from - 200)) {
                    leaning.addAll(leaning(from - 200));
                }
            }
        }
        return leaning;
    }

    private static int bits(Set<Integer> set) {
        int bits = 0;
        for (int one : set) {
            bits |= 1 << one;
        }
        return bits;
    }

    int leans(int proof) {
        return in(proof, proofs.size()) ? bits(leaning(proof)) : NONE;
    }

    private List<Integer> holesOf(int proof) {
        List<Integer> holes = new ArrayList<>();
        Proof told = proofs.get(proof);
        for (int s = 0; s < told.steps.size() && (told.kind == 1 || told.kind == 4); s++) {
            for (int k = 0; k < told.steps.get(s).from.size(); k++) {
                if (told.steps.get(s).from.get(k) == 300) {
                    holes.add(10 * s + k);
                }
            }
        }
        return holes;
    }

    int hole(int proof, int i) {
        if (!in(proof, proofs.size())) {
            return NONE;
        }
        List<Integer> holes = holesOf(proof);
        return i == -1 ? holes.size() : in(i, holes.size()) ? holes.get(i) : NONE;
    }

    int fill(int proof, int from) {
        if (!in(proof, proofs.size())) {
            return NONE;
        }
        List<Integer> holes = holesOf(proof);
        if (holes.isEmpty()) {
            return STATE;
        }
        int s = holes.get(0) / 10;
        int k = holes.get(0) % 10;
        Step step = proofs.get(proof).steps.get(s);
        List<String> terms = terms(textOn(step.rule, today));
        int said = -1;
        if (good().contains(from)) {
            said = papers.get(from).fact;
        } else if (in(from - 100, s)) {
            said = sayingOf(proof, from - 100, today);
        }
        if (said < 0 || k >= terms.size() || said != factOf(terms.get(k), step.letters)) {
            return STATE;
        }
        List<Integer> sources = new ArrayList<>(step.from);
        sources.set(k, from);
        proofs.get(proof).steps.set(s, new Step(step.rule, step.letters, sources));
        return holes.size() - 1;
    }

    /** The body of an act in a kind, or in the next above that has one. */
    private int actOf(int kind, int act, int x, int i) {
        int k = proofs.get(i).steps.size();
        int own = proofs.get(i).kind;
        if (kind == 1 && act == 0) {
            return actOf(0, 0, x * 2, i);
        }
        if (kind == 2 && act == 1) {
            return actOf(0, 1, x, i) ^ 5;
        }
        if (kind == 3 && act == 2) {
            return -actOf(0, 2, x, i);
        }
        if (kind == 4 && act == 1) {
            return actOf(1, 1, x + 1, i);
        }
        if (kind == 4 && act == 2) {
            return actOf(1, 2, x, i) + actOf(own, 0, 1, i);
        }
        if (kind != 0) {
            return actOf(ABOVE[kind], act, x, i);
        }
        return act == 0 ? x + k : act == 1 ? actOf(own, 0, x, i) - i : actOf(own, 1, x, i) * 2;
    }

    int act(int proof, int act, int x) {
        return in(proof, proofs.size()) && in(act, 3) ? actOf(proofs.get(proof).kind, act, x, proof) : 0;
    }

    int as(int proof, int k) {
        if (!in(proof, proofs.size()) || !in(k, 5)) {
            return NONE;
        }
        int kind = proofs.get(proof).kind;
        boolean under = kind == k || k == 0 || kind == 4 && k == 1;
        return under ? proofs.get(proof).steps.size() : -6;
    }

    // ---- titles

    int title(int proof) {
        if (!in(proof, proofs.size())) {
            return NONE;
        }
        if (!isTaken(proof, today, good())) {
            return STATE;
        }
        int fact = says(proof, -1, today);
        for (Title title : titles) {
            if (title.fact == fact) {
                return STATE;
            }
        }
        if (titles.size() == 10) {
            return FULL;
        }
        titles.add(new Title(proof, fact, today));
        return titles.size() - 1;
    }

    private int standing(int title, int day, Set<Integer> some) {
        Title told = titles.get(title);
        return isTaken(told.proof, told.day, some) ? 1 : followsBy(told.fact, day, some) ? 2 : 0;
    }

    int stand(int title, int day) {
        if (!in(title, titles.size())) {
            return NONE;
        }
        return day < titles.get(title).day || day > 999 ? BAD : standing(title, day, good());
    }

    int fall(int paper) {
        if (!in(paper, papers.size())) {
            return NONE;
        }
        if (falseOnes.contains(paper)) {
            return STATE;
        }
        Set<Integer> without = good();
        without.remove(paper);
        Set<Integer> falling = new HashSet<>();
        for (int t = 0; t < titles.size(); t++) {
            if (standing(t, today, good()) != 0 && standing(t, today, without) == 0) {
                falling.add(t);
            }
        }
        return bits(falling);
    }

    int carry(int title, int day) {
        if (!in(title, titles.size())) {
            return NONE;
        }
        if (!in(day, 1000)) {
            return BAD;
        }
        int proof = titles.get(title).proof;
        for (int s = 0; s < proofs.get(proof).steps.size(); s++) {
            if (lacks(proof, s, day) != 0) {
                return s;
            }
        }
        return -5;
    }

    int clash(int a, int b) {
        if (!in(a, titles.size()) || !in(b, titles.size())) {
            return NONE;
        }
        if (a == b) {
            return BAD;
        }
        int one = titles.get(a).fact;
        int other = titles.get(b).fact;
        boolean clash = one / 125 == 0 && other / 125 == 0 && one % 25 / 5 == other % 25 / 5
                && one % 125 / 25 != other % 125 / 25;
        return clash ? leans(titles.get(a).proof) ^ leans(titles.get(b).proof) : -5;
    }

    int every(int fact) {
        if (!in(fact, 750)) {
            return BAD;
        }
        if (!followsBy(fact, today, good())) {
            return -5;
        }
        Set<Integer> needed = new HashSet<>();
        for (int p : good()) {
            Set<Integer> without = good();
            without.remove(p);
            if (!followsBy(fact, today, without)) {
                needed.add(p);
            }
        }
        return bits(needed);
    }

    private int fewest(int fact, List<Integer> choice, Set<Integer> own) {
        int best = -5;
        for (int sub = 0; sub < 1 << choice.size(); sub++) {
            Set<Integer> chosen = new HashSet<>();
            for (int i = 0; i < choice.size(); i++) {
                if ((sub >> i & 1) != 0) {
                    chosen.add(choice.get(i));
                }
            }
            int bits = bits(chosen);
            Set<Integer> all = new HashSet<>(own);
            all.addAll(chosen);
            boolean fewer = best == -5 || Integer.bitCount(bits) < Integer.bitCount(best)
                    || Integer.bitCount(bits) == Integer.bitCount(best) && bits < best;
            if (fewer && followsBy(fact, today, all)) {
                best = bits;
            }
        }
        return best;
    }

    int enough(int fact, int told) {
        if (!in(fact, 750)) {
            return BAD;
        }
        List<Integer> choice = new ArrayList<>();
        for (int bit = 0; bit < 32; bit++) {
            if ((told >>> bit & 1) != 0) {
                choice.add(bit);
            }
        }
        return good().containsAll(choice) && choice.size() <= 6 ? fewest(fact, choice, Set.of()) : BAD;
    }

    int could(int person, int fact) {
        if (!in(person, 5)) {
            return NONE;
        }
        if (!in(fact, 750)) {
            return BAD;
        }
        List<Integer> choice = new ArrayList<>();
        Set<Integer> own = new HashSet<>();
        for (int p = 0; p < papers.size(); p++) {
            if (!falseOnes.contains(p) && papers.get(p).person == person) {
                own.add(p);
            } else if (!falseOnes.contains(p) && choice.size() < 6) {
                choice.add(p);
            }
        }
        return fewest(fact, choice, own);
    }

    // ---- tactics

    int tactic() {
        if (tactics.size() == 6) {
            return FULL;
        }
        String text = takeTape();
        int fault = faultOf(List.of(TACTIC), text);
        if (fault >= 0) {
            return -10 - fault;
        }
        tactics.add(text);
        return tactics.size() - 1;
    }

    private int spent;
    private int limit;

    /** The parts of a text between signs that stand in no brackets. */
    private static List<String> split(String text, char sign) {
        List<String> parts = new ArrayList<>();
        int open = 0;
        int start = 0;
        for (int i = 0; i < text.length(); i++) {
            open += text.charAt(i) == '(' ? 1 : text.charAt(i) == ')' ? -1 : 0;
            if (open == 0 && text.charAt(i) == sign) {
                parts.add(text.substring(start, i));
                start = i + 1;
            }
        }
        parts.add(text.substring(start));
        return parts;
    }

    private void play(String text, Set<Integer> facts) {
        List<String> pieces = split(text, ';');
        if (pieces.size() > 1) {
            pieces.forEach(piece -> play(piece, facts));
            return;
        }
        List<String> tries = split(text, '|');
        int before = facts.size();
        if (tries.size() > 1) {
            for (String one : tries) {
                if (facts.size() == before) {
                    play(one, facts);
                }
            }
        } else if (text.endsWith("*")) {
            do {
                before = facts.size();
                play(text.substring(0, text.length() - 1), facts);
            } while (facts.size() > before);
        } else if (text.startsWith("(")) {
            play(text.substring(1, text.length() - 1), facts);
        } else if (text.charAt(0) - '0' < rules.size() && spent < limit) {
            spent++;
            Set<Integer> ahead = new HashSet<>(facts);
            for (Use use : usesOf(textOn(text.charAt(0) - '0', today))) {
                if (ahead.containsAll(use.terms)) {
                    facts.add(use.end);
                }
            }
        }
    }

    int run(int tactic, int n, int what) {
        if (!in(tactic, tactics.size()) || !in(what, 2)) {
            return NONE;
        }
        if (n < 1 || n > 200) {
            return BAD;
        }
        spent = 0;
        limit = n;
        found = factsOf(good());
        play(tactics.get(tactic), found);
        return what == 0 ? found.size() : spent;
    }

    int found(int fact) {
        if (!in(fact, 750)) {
            return BAD;
        }
        return found == null ? STATE : found.contains(fact) ? 1 : 0;
    }

    // ---- the image

    int image() {
        kept = new Model();
        kept.become(this);
        return today;
    }

    int undo() {
        if (kept == null) {
            return STATE;
        }
        become(kept);
        return today;
    }

    int count(int what) {
        int[] counts = {today, rules.size(), changes.size(), papers.size(), proofs.size(), titles.size(), tactics.size(),
            tape.length()};
        return in(what, 8) ? counts[what] : NONE;
    }
}
