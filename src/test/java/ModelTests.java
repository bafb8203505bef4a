import java.util.ArrayList;
import java.util.Comparator;
import java.util.HashSet;
import java.util.List;
import java.util.Random;
import java.util.Set;
import java.util.TreeMap;
import java.util.function.IntPredicate;

/** Long runs of calls with fixed seeds: each answer is compared with that of a plain model of the document. */
public final class ModelTests {
    private static final int RUNS = 1500;
    private static final int CALLS = 512;
    private static final String[] NAMES = {
        "make", "remove", "set", "filterTerms", "filterTags", "filterRange", "release", "documents", "valueOf",
        "matching", "facet", "topTerm", "between", "ranked", "sorted", "sum", "extreme", "different", "pairs", "box"};

    /** Holds documents by number and a predicate per filter, nothing like the arrays of the class. */
    private static final class Model {
        final TreeMap<Integer, int[]> documents = new TreeMap<>();
        final IntPredicate[] filters = new IntPredicate[6];

        static boolean in(int value, int least, int greatest) {
            return least <= value && value <= greatest;
        }

        List<Integer> beside(int skipped) {
            List<Integer> found = new ArrayList<>();
            documents.forEach((number, values) -> {
                boolean all = true;
                for (int field = 0; field < 6; field++) {
                    all &= field == skipped || filters[field] == null || filters[field].test(values[field]);
                }
                if (all) {
                    found.add(number);
                }
            });
            return found;
        }

        int value(int document, int field) {
            return documents.get(document)[field];
        }

        List<Integer> numbers(List<Integer> among, int field) {
            List<Integer> numbers = new ArrayList<>();
            among.forEach(document -> numbers.add(value(document, field)));
            return numbers;
        }

        List<Integer> with(List<Integer> among, int group, int term) {
            List<Integer> found = new ArrayList<>(among);
            found.removeIf(document -> {
                int value = value(document, group);
                return group == 3 ? (value & (1 << term)) == 0 : value != term;
            });
            return found;
        }

        boolean isTerm(int group, int term) {
            return in(term, 0, group == 3 ? 7 : 9);
        }

        int filter(int field, IntPredicate filter) {
            filters[field] = filter;
            return beside(-1).size();
        }

        int make(int a, int b, int c) {
            if (!in(a, 0, 9) || !in(b, 0, 9) || !in(c, 0, 9)) return -3;
            if (documents.size() == 48) return -4;
            int number = 0;
            while (documents.containsKey(number)) number++;
            documents.put(number, new int[] {a, b, c, 0, 0, 0});
            return number;
        }

        int remove(int document) {
            return documents.remove(document) == null ? -1 : documents.size();
        }

        int set(int document, int field, int value) {
            if (!documents.containsKey(document)) return -1;
            if (!in(field, 0, 5)) return -2;
            int[] least = {0, 0, 0, 0, -999, -999};
            int[] greatest = {9, 9, 9, 255, 999, 999};
            if (!in(value, least[field], greatest[field])) return -3;
            int[] values = documents.get(document);
            int before = values[field];
            values[field] = value;
            return before == value ? 0 : 1;
        }

        int filterTerms(int field, int terms) {
            if (!in(field, 0, 2)) return -2;
            if (!in(terms, 1, 1023)) return -3;
            return filter(field, term -> (terms & (1 << term)) != 0);
        }

        int filterTags(int tags, int mode) {
            if (!in(tags, 1, 255)) return -3;
            if (!in(mode, 0, 2)) return -5;
            return filter(3, set -> {
                int has = 0;
                int asked = 0;
                for (int tag = 0; tag < 8; tag++) {
                    boolean isAsked = (tags & (1 << tag)) != 0;
                    asked += isAsked ? 1 : 0;
                    has += isAsked && (set & (1 << tag)) != 0 ? 1 : 0;
                }
                return mode == 0 ? has > 0 : mode == 1 ? has == asked : has == 0;
            });
        }

        int filterRange(int field, int least, int greatest) {
            if (!in(field, 4, 5)) return -2;
            return filter(field, number -> in(number, least, greatest));
        }

        int release(int field) {
            return in(field, 0, 5) ? filter(field, null) : -2;
        }

        int valueOf(int document, int field) {
            if (!documents.containsKey(document)) return -1000;
            return in(field, 0, 5) ? value(document, field) : -1001;
        }

        int facet(int field, int term) {
            if (!in(field, 0, 3)) return -2;
            return isTerm(field, term) ? with(beside(field), field, term).size() : -3;
        }

        int topTerm(int field, int k) {
            if (!in(field, 0, 3)) return -2;
            List<Integer> terms = new ArrayList<>();
            for (int term = 0; isTerm(field, term); term++) {
                if (facet(field, term) > 0) terms.add(term);
            }
            terms.sort(Comparator.comparingInt(term -> -facet(field, term)));
            return in(k, 0, terms.size() - 1) ? terms.get(k) : -6;
        }

        int between(int field, int least, int greatest) {
            if (!in(field, 4, 5)) return -2;
            List<Integer> numbers = numbers(beside(field), field);
            numbers.removeIf(number -> !in(number, least, greatest));
            return numbers.size();
        }

        int ranked(int field, int k) {
            if (!in(field, 4, 5)) return -2000;
            List<Integer> numbers = numbers(beside(-1), field);
            numbers.sort(null);
            return in(k, 0, numbers.size() - 1) ? numbers.get(k) : -2001;
        }

        int sorted(int field, int way, int k) {
            if (!in(field, 4, 5)) return -2;
            if (!in(way, 0, 1)) return -5;
            List<Integer> found = beside(-1);
            found.sort(Comparator.comparingInt(document -> (way == 0 ? 1 : -1) * value(document, field)));
            return in(k, 0, found.size() - 1) ? found.get(k) : -6;
        }

        int sum(int group, int term, int field) {
            if (!in(group, 0, 3) || !in(field, 4, 5)) return -1000000;
            if (!isTerm(group, term)) return -1000001;
            return numbers(with(beside(-1), group, term), field).stream().mapToInt(n -> n).sum();
        }

        int extreme(int what, int field) {
            int group = what / 100;
            int term = what % 100 / 10;
            int which = what % 10;
            if (what < 0 || !in(group, 0, 3) || !in(field, 4, 5) || !in(which, 0, 1)) return -2000;
            if (!isTerm(group, term)) return -2001;
            List<Integer> numbers = numbers(with(beside(-1), group, term), field);
            numbers.sort(null);
            if (numbers.isEmpty()) return -2002;
            return numbers.get(which == 0 ? 0 : numbers.size() - 1);
        }

        int different(int field) {
            return in(field, 0, 5) ? new HashSet<>(numbers(beside(-1), field)).size() : -2;
        }

        int pairs(int field, int other) {
            if (!in(field, 0, 2) || !in(other, 0, 2)) return -2;
            Set<String> seen = new HashSet<>();
            beside(-1).forEach(document -> seen.add(value(document, field) + " " + value(document, other)));
            return seen.size();
        }

        int box(int field, int width, int b) {
            if (!in(field, 4, 5)) return -2;
            if (!in(width, 1, 999)) return -5;
            List<Integer> numbers = numbers(beside(-1), field);
            numbers.removeIf(number -> Math.floorDiv(number, width) != b);
            return numbers.size();
        }
    }

    private static int ask(FacetDesk x, String name, int p, int q, int r) {
        switch (name) {
            case "make": return x.make(p, q, r);
            case "remove": return x.remove(p);
            case "set": return x.set(p, q, r);
            case "filterTerms": return x.filterTerms(p, q);
            case "filterTags": return x.filterTags(p, q);
            case "filterRange": return x.filterRange(p, q, r);
            case "release": return x.release(p);
            case "documents": return x.documents();
            case "valueOf": return x.valueOf(p, q);
            case "matching": return x.matching();
            case "facet": return x.facet(p, q);
            case "topTerm": return x.topTerm(p, q);
            case "between": return x.between(p, q, r);
            case "ranked": return x.ranked(p, q);
            case "sorted": return x.sorted(p, q, r);
            case "sum": return x.sum(p, q, r);
            case "extreme": return x.extreme(p, q);
            case "different": return x.different(p);
            case "pairs": return x.pairs(p, q);
            default: return x.box(p, q, r);
        }
    }

    private static int ask(Model x, String name, int p, int q, int r) {
        switch (name) {
            case "make": return x.make(p, q, r);
            case "remove": return x.remove(p);
            case "set": return x.set(p, q, r);
            case "filterTerms": return x.filterTerms(p, q);
            case "filterTags": return x.filterTags(p, q);
            case "filterRange": return x.filterRange(p, q, r);
            case "release": return x.release(p);
            case "documents": return x.documents.size();
            case "valueOf": return x.valueOf(p, q);
            case "matching": return x.beside(-1).size();
            case "facet": return x.facet(p, q);
            case "topTerm": return x.topTerm(p, q);
            case "between": return x.between(p, q, r);
            case "ranked": return x.ranked(p, q);
            case "sorted": return x.sorted(p, q, r);
            case "sum": return x.sum(p, q, r);
            case "extreme": return x.extreme(p, q);
            case "different": return x.different(p);
            case "pairs": return x.pairs(p, q);
            default: return x.box(p, q, r);
        }
    }

    /** Mostly from least to greatest, now and then one of the two beyond, and seldom any int at all. */
    private static int near(Random random, int least, int greatest) {
        int odd = random.nextInt(60);
        if (odd == 0) return random.nextInt();
        if (odd == 1) return greatest + 1;
        if (odd == 2) return least - 1;
        if (odd == 3) return random.nextBoolean() ? Integer.MIN_VALUE : Integer.MAX_VALUE;
        return least + random.nextInt(greatest - least + 1);
    }

    private static int[] arguments(Random random, String name, int spread) {
        int document = near(random, 0, 47);
        int any = near(random, 0, 5);
        int group = near(random, 0, 3);
        int number = near(random, 4, 5);
        int k = near(random, 0, 12);
        switch (name) {
            case "make": return new int[] {near(random, 0, 9), near(random, 0, 9), near(random, 0, 9)};
            case "remove": return new int[] {document, 0, 0};
            case "set": return new int[] {document, any, settable(random, any, spread)};
            case "filterTerms": return new int[] {near(random, 0, 2), near(random, 1, 1023) | random.nextInt(1024), 0};
            case "filterTags": return new int[] {near(random, 1, 255) & random.nextInt(512), near(random, 0, 2), 0};
            case "filterRange":
            case "between": return new int[] {number, near(random, -spread, spread / 2), near(random, -spread, spread)};
            case "release":
            case "different": return new int[] {any, 0, 0};
            case "valueOf": return new int[] {document, any, 0};
            case "facet": return new int[] {group, near(random, 0, 9), 0};
            case "topTerm": return new int[] {group, near(random, 0, 9), 0};
            case "ranked": return new int[] {number, k, 0};
            case "sorted": return new int[] {number, near(random, 0, 1), k};
            case "sum": return new int[] {group, near(random, 0, 9), number};
            case "extreme": return new int[] {100 * group + 10 * near(random, 0, 9) + near(random, 0, 1), number, 0};
            case "pairs": return new int[] {near(random, 0, 2), near(random, 0, 2), 0};
            case "box": return new int[] {number, near(random, 1, spread), near(random, -3, 3)};
            default: return new int[3];
        }
    }

    private static int settable(Random random, int field, int spread) {
        return field < 3 ? near(random, 0, 9) : field == 3 ? near(random, 0, 255) : near(random, -spread, spread);
    }

    /** Without more of these three, too few documents would match and too few different values would stand. */
    private static String pickName(Random random) {
        int pick = random.nextInt(NAMES.length + 16);
        if (pick < NAMES.length) return NAMES[pick];
        return pick < NAMES.length + 6 ? "make" : pick < NAMES.length + 14 ? "set" : "release";
    }

    /** Answers false, and prints the call, if an answer is not the model's. */
    private static boolean run(int seed) {
        Random random = new Random(seed);
        int spread = seed % 2 == 0 ? 999 : 6;
        FacetDesk desk = new FacetDesk();
        Model model = new Model();
        for (int call = 0; call < CALLS; call++) {
            String name = pickName(random);
            int[] given = arguments(random, name, spread);
            int got = ask(desk, name, given[0], given[1], given[2]);
            int want = ask(model, name, given[0], given[1], given[2]);
            if (got != want) {
                System.out.println("seed " + seed + ", call " + call + ": " + name + "(" + given[0] + ", " + given[1]
                    + ", " + given[2] + ") answered " + got + ", due is " + want);
                return false;
            }
        }
        return true;
    }

    public static void main(String[] args) {
        int wrong = 0;
        for (int seed = 0; seed < RUNS; seed++) {
            if (!run(seed)) {
                wrong++;
            }
        }
        System.out.println(wrong == 0 ? "all answers are as due" : wrong + " runs have an answer that is not as due");
        if (wrong != 0) {
            System.exit(1);
        }
    }
}
