import java.util.ArrayList;
import java.util.List;
import java.util.function.Consumer;
import java.util.function.Supplier;

/** What tests share that each stand for one sentence of the document: a wrong answer is printed under its sentence. */
abstract class Sentences {
    static final int MIN = Integer.MIN_VALUE;
    static final int MAX = Integer.MAX_VALUE;

    static final int[] TERM_FIELDS = {0, 1, 2};
    static final int[] GROUP_FIELDS = {0, 1, 2, 3};
    static final int[] NUMBER_FIELDS = {4, 5};
    static final int[] FIELDS = {0, 1, 2, 3, 4, 5};
    static final int[] NOT_TERM_FIELDS = {-1, 3, 4, 5, 6, MIN, MAX};
    static final int[] NOT_GROUP_FIELDS = {-1, 4, 5, 6, MIN, MAX};
    static final int[] NOT_NUMBER_FIELDS = {-1, 0, 1, 2, 3, 6, MIN, MAX};
    static final int[] NOT_FIELDS = {-1, 6, MIN, MAX};
    /** Shifts take their distance by 32, so 32 and 64 could pass for the term 0. */
    static final int[] NOT_TERMS = {-1, 10, 32, 64, MIN, MAX};
    static final int[] NOT_TAGS = {-1, 8, 9, 32, 64, MIN, MAX};
    /** On a desk that has the documents 0 to 7 alone. */
    static final int[] NOT_DOCUMENTS_OF_EIGHT = {-1, 8, 47, 48, MIN, MAX};

    private static final int[] SOME_SETS = {0, 1, 2, 3, 4, 8, 16, 32, 64, 127, 128, 129, 254, 255};
    private static final int[] SOME_NUMBERS = {
        -999, -998, -901, -900, -301, -300, -11, -10, -1, 0, 1, 10, 11, 500, 501, 800, 801, 998, 999};

    private static String sentence = "";
    private static boolean failed = false;
    private static int tests = 0;
    private static int failedTests = 0;

    static void test(String place, String words, Runnable test) {
        sentence = place + ": \"" + words + "\"";
        failed = false;
        tests++;
        try {
            test.run();
        } catch (RuntimeException broken) {
            fail(broken.toString());
        }
        failedTests += failed ? 1 : 0;
    }

    static void fail(String what) {
        failed = true;
        System.out.println(sentence + ": " + what);
    }

    static void end() {
        System.out.println(tests + " sentences, " + failedTests + " of them broken");
        if (tests == 0 || failedTests != 0) {
            System.exit(1);
        }
    }

    static int[] notTermsOf(int group) {
        return group == 3 ? NOT_TAGS : NOT_TERMS;
    }

    static int greatestTermOf(int group) {
        return group == 3 ? 7 : 9;
    }

    /** Desks on which a change by a call that must change nothing would show: without documents, with a gap, full. */
    static List<Supplier<Desk>> starts() {
        return List.of(Desk::empty, Desk::gapped, Desk::fullFiltered);
    }

    static void changesNothing(Supplier<Desk> start, String name, int... given) {
        changeNothing(start, Desk.text(name, given), x -> x.ask(name, given));
    }

    static void changeNothing(Supplier<Desk> start, String what, Consumer<Desk> calls) {
        Supplier<Desk> after = () -> {
            Desk x = start.get();
            calls.accept(x);
            return x;
        };
        if (!everythingOf(start).equals(everythingOf(after))) {
            fail(what + " changed something");
        }
    }

    /** All that later calls show of a desk; each part takes a new one, as one has too few calls for them all. */
    static List<Integer> everythingOf(Supplier<Desk> start) {
        List<Integer> seen = new ArrayList<>();
        seeValues(start.get(), seen);
        seeGroups(start.get(), seen);
        seeOrders(start.get(), seen);
        for (int field : FIELDS) {
            seeFilter(start.get(), field, seen);
        }
        return seen;
    }

    private static void seeValues(Desk x, List<Integer> seen) {
        seen.add(x.ask("documents"));
        seen.add(x.ask("matching"));
        for (int d = 0; d < 48; d++) {
            for (int field : FIELDS) {
                seen.add(x.ask("valueOf", d, field));
            }
        }
    }

    private static void seeGroups(Desk x, List<Integer> seen) {
        for (int group : GROUP_FIELDS) {
            for (int term = 0; term <= greatestTermOf(group); term++) {
                seen.add(x.ask("facet", group, term));
                seen.add(x.ask("topTerm", group, term));
                seen.add(x.ask("sum", group, term, 4));
                seen.add(x.ask("extreme", 100 * group + 10 * term, 5));
            }
        }
    }

    private static void seeOrders(Desk x, List<Integer> seen) {
        for (int field : NUMBER_FIELDS) {
            for (int k = 0; k < 48; k++) {
                seen.add(x.ask("ranked", field, k));
                seen.add(x.ask("sorted", field, 1, k));
            }
            seen.add(x.ask("between", field, -999, 999));
            seen.add(x.ask("box", field, 10, 0));
        }
        for (int field : FIELDS) {
            seen.add(x.ask("different", field));
        }
        seen.add(x.ask("pairs", 0, 1));
    }

    /** With the other filters gone, one document goes through many values: the answers show the filter that is left. */
    private static void seeFilter(Desk x, int field, List<Integer> seen) {
        for (int other : FIELDS) {
            if (other != field) {
                seen.add(x.ask("release", other));
            }
        }
        x.ask("remove", 0);
        seen.add(x.ask("make", 0, 0, 0));
        for (int value : field < 3 ? new int[] {0, 1, 2, 3, 4, 5, 6, 7, 8, 9} : field == 3 ? SOME_SETS : SOME_NUMBERS) {
            x.ask("set", 0, field, value);
            seen.add(x.ask("matching"));
        }
    }
}
