import java.util.function.Supplier;

/** Each sentence of the document's parts "What it is" and "Terms" that names a boundary, with a test of its own. */
public final class TermsTests extends Sentences {
    private static final String REFUSED = "A refused call changes nothing.";
    private static final String ORDER = "The tests of a call are made in the order in which they are named.";
    private static final String NO_FIELD = "a field that is not 0 to 5, or is not of the sort that is asked for: -2";
    private static final String QUESTIONS = "questions; they change nothing";

    private static void calls() {
        String words = "An object is used for at most 512 calls after it has been made";
        test("What it is", words + " (the last one changes)", TermsTests::lastCallChanges);
        test("What it is", words + " (the last one is a question)", TermsTests::lastCallAsks);
        test("What it is", words + " (all of them change)", TermsTests::allCallsChange);
        test("What it is", words + " (all of them are refused)", TermsTests::allCallsAreRefused);
    }

    private static void atTheLastCall(int want, String name, int... given) {
        Desk x = Desk.fence();
        while (x.calls() < Desk.CALLS - 1) {
            x.ask("matching");
        }
        x.due(want, name, given);
    }

    private static void lastCallChanges() {
        atTheLastCall(8, "make", 1, 2, 3);
        atTheLastCall(7, "remove", 0);
        atTheLastCall(1, "set", 0, 0, 1);
        atTheLastCall(2, "filterTerms", 0, 1023);
        atTheLastCall(2, "filterTags", 129, 0);
        atTheLastCall(2, "filterRange", 4, 0, 11);
        atTheLastCall(2, "release", 5);
    }

    private static void lastCallAsks() {
        atTheLastCall(8, "documents");
        atTheLastCall(11, "valueOf", 7, 4);
        atTheLastCall(1, "matching");
        atTheLastCall(1, "facet", 0, 9);
        atTheLastCall(9, "topTerm", 0, 1);
        atTheLastCall(2, "between", 4, 0, 11);
        atTheLastCall(0, "ranked", 4, 0);
        atTheLastCall(0, "sorted", 4, 0, 0);
        atTheLastCall(0, "sum", 0, 0, 4);
        atTheLastCall(0, "extreme", 0, 4);
        atTheLastCall(1, "different", 0);
        atTheLastCall(1, "pairs", 0, 1);
        atTheLastCall(1, "box", 4, 1, 0);
    }

    private static void allCallsChange() {
        Desk x = Desk.empty();
        for (int d = 0; d < 48; d++) {
            x.due(d, "make", 0, 0, 0);
        }
        while (x.calls() < Desk.CALLS - 2) {
            x.due(47, "remove", 47);
            x.due(47, "make", 9, 9, 9);
        }
        x.due(1, "set", 47, 4, 999);
        x.due(999, "valueOf", 47, 4);
    }

    private static void allCallsAreRefused() {
        Desk x = Desk.empty();
        while (x.calls() < Desk.CALLS - 1) {
            x.due(-3, "make", 0, 0, 10);
        }
        x.due(0, "make", 0, 0, 9);
    }

    private static void documentsAndFields() {
        test("Terms", "There are at most 48 DOCUMENTS, numbered 0 to 47.", TermsTests::documents);
        test("Terms", "three TERM fields, 0 to 2, each with one term from 0 to 9", TermsTests::terms);
        test("Terms", "a set of the tags 0 to 7, written as the number from 0 to 255 with the binary digit g for tag g",
            TermsTests::sets);
        test("Terms", "two NUMBER fields, 4 and 5, each with a number from -999 to 999", TermsTests::numbers);
    }

    private static void documents() {
        Desk x = Desk.empty();
        for (int d = 0; d < 48; d++) {
            x.due(d, "make", d % 10, 0, 0);
        }
        x.ask("make", 0, 0, 0);
        x.due(48, "documents");
        for (int d = 0; d < 48; d++) {
            x.due(d % 10, "valueOf", d, 0);
        }
        x.due(-1000, "valueOf", 48, 0);
        x.due(-1000, "valueOf", -1, 0);
    }

    private static void terms() {
        for (int field : TERM_FIELDS) {
            Desk x = Desk.alike(1, 5, 5, 5, 0, 0, 0);
            for (int term = 0; term <= 9; term++) {
                x.ask("set", 0, field, term);
                for (int other : TERM_FIELDS) {
                    x.due(other == field ? term : 5, "valueOf", 0, other);
                }
                for (int asked = 0; asked <= 9; asked++) {
                    x.due(asked == term ? 1 : 0, "facet", field, asked);
                }
            }
        }
    }

    private static void sets() {
        for (int set = 0; set <= 255; set++) {
            Desk x = Desk.of(Desk.row(0, 0, 0, set, 0, 0));
            x.due(set, "valueOf", 0, 3);
            for (int tag = 0; tag <= 7; tag++) {
                x.due(set >> tag & 1, "facet", 3, tag);
            }
        }
    }

    private static void numbers() {
        for (int field : NUMBER_FIELDS) {
            for (int number = -999; number <= 999; number++) {
                Desk x = Desk.empty();
                x.ask("make", 0, 0, 0);
                x.due(number == 0 ? 0 : 1, "set", 0, field, number);
                x.due(number, "valueOf", 0, field);
                x.due(0, "valueOf", 0, 9 - field);
            }
        }
    }

    private static void filters() {
        String one = "For each field there is at most one FILTER.";
        test("Terms", one + " (on a term field)", TermsTests::oneFilterOfTerms);
        test("Terms", one + " (on the set field)", TermsTests::oneFilterOfTags);
        test("Terms", one + " (on a number field)", TermsTests::oneFilterOfNumbers);
        test("Terms", "the number from 1 to 1023 with the binary digit t for term t", TermsTests::termFilters);
        test("Terms", "by mode 0 a document passes if it has at least one of the tags", TermsTests::anyTag);
        test("Terms", "by mode 1 if it has all of them", TermsTests::everyTag);
        test("Terms", "by mode 2 if it has none of them", TermsTests::noTag);
        test("Terms", "a document passes if its number is from the least to the greatest one of the range",
            TermsTests::rangeFilters);
        test("Terms", "A document MATCHES if it passes all filters there are", TermsTests::matches);
        test("Terms", "it matches BESIDE a field if it passes all filters but that of this field", TermsTests::beside);
    }

    private static void oneFilterOfTerms() {
        for (int field : TERM_FIELDS) {
            Desk x = Desk.of(Desk.row(0, 0, 0, 0, 0, 0), Desk.row(9, 9, 9, 0, 0, 0), Desk.row(9, 9, 9, 0, 0, 0));
            x.due(1, "filterTerms", field, 1);
            x.due(2, "filterTerms", field, 512);
            x.due(1, "filterTerms", field, 1);
            x.due(3, "release", field);
        }
    }

    private static void oneFilterOfTags() {
        Desk x = Desk.of(Desk.row(0, 0, 0, 1, 0, 0), Desk.row(0, 0, 0, 128, 0, 0), Desk.row(0, 0, 0, 128, 0, 0));
        x.due(1, "filterTags", 1, 0);
        x.due(2, "filterTags", 1, 2);
        x.due(2, "filterTags", 128, 1);
        x.due(1, "filterTags", 128, 2);
        x.due(3, "release", 3);
    }

    private static void oneFilterOfNumbers() {
        for (int field : NUMBER_FIELDS) {
            Desk x = Desk.of(Desk.row(0, 0, 0, 0, -9, -9), Desk.row(0, 0, 0, 0, 9, 9), Desk.row(0, 0, 0, 0, 9, 9));
            x.due(1, "filterRange", field, MIN, 0);
            x.due(2, "filterRange", field, 0, MAX);
            x.due(0, "filterRange", field, 0, 0);
            x.due(1, "filterRange", field, MIN, 0);
            x.due(3, "release", field);
        }
    }

    private static void termFilters() {
        for (int field : TERM_FIELDS) {
            int other = (field + 1) % 3;
            for (int terms = 1; terms <= 1023; terms++) {
                Desk x = Desk.empty();
                for (int term = 0; term <= 9; term++) {
                    x.ask("make", term, term, term);
                }
                x.due(Integer.bitCount(terms), "filterTerms", field, terms);
                for (int term = 0; term <= 9; term++) {
                    x.due(terms >> term & 1, "facet", other, term);
                }
            }
        }
    }

    private static Desk withSet(int set) {
        return Desk.of(Desk.row(0, 0, 0, set, 0, 0));
    }

    private static void anyTag() {
        for (int set = 0; set <= 255; set++) {
            Desk x = withSet(set);
            for (int tags = 1; tags <= 255; tags++) {
                x.due((set & tags) != 0 ? 1 : 0, "filterTags", tags, 0);
            }
        }
    }

    private static void everyTag() {
        for (int set = 0; set <= 255; set++) {
            Desk x = withSet(set);
            for (int tags = 1; tags <= 255; tags++) {
                x.due((~set & tags) == 0 ? 1 : 0, "filterTags", tags, 1);
            }
        }
    }

    private static void noTag() {
        for (int set = 0; set <= 255; set++) {
            Desk x = withSet(set);
            for (int tags = 1; tags <= 255; tags++) {
                x.due((set & tags) == 0 ? 1 : 0, "filterTags", tags, 2);
            }
        }
    }

    private static void rangeFilters() {
        for (int field : NUMBER_FIELDS) {
            for (int number : new int[] {-999, -998, -1, 0, 1, 998, 999}) {
                Desk x = Desk.alike(1, 0, 0, 0, 0, number, number);
                x.due(1, "filterRange", field, number, number);
                x.due(1, "filterRange", field, number - 1, number);
                x.due(1, "filterRange", field, number, number + 1);
                x.due(0, "filterRange", field, number + 1, number + 1);
                x.due(0, "filterRange", field, number - 1, number - 1);
                x.due(0, "filterRange", field, number + 1, MAX);
                x.due(0, "filterRange", field, MIN, number - 1);
            }
        }
    }

    private static void matches() {
        Desk x = Desk.fence();
        x.due(1, "matching");
        x.due(0, "sorted", 4, 0, 0);
        for (int field : FIELDS) {
            Desk y = Desk.fence();
            y.due(2, "release", field);
            y.due(field + 1, "sorted", field == 4 ? 4 : 5, 0, 1);
        }
        for (int field : FIELDS) {
            x.due(field == 5 ? 8 : field + 2, "release", field);
        }
        Desk none = Desk.empty();
        none.due(0, "matching");
        Desk.full().due(48, "matching");
    }

    private static void beside() {
        for (int field : GROUP_FIELDS) {
            Desk x = Desk.fence();
            x.due(1, "facet", field, 0);
            x.due(1, "facet", field, greatestTermOf(field));
        }
        for (int field : NUMBER_FIELDS) {
            Desk x = Desk.fence();
            x.due(1, "between", field, 0, 0);
            x.due(1, "between", field, 11, 11);
        }
        besideOneFilter();
    }

    /** A filter that nothing passes shuts out all, but beside its own field none. */
    private static void besideOneFilter() {
        for (int filtered : FIELDS) {
            Desk x = Desk.alike(3, 0, 0, 0, 1, 0, 0);
            if (filtered < 3) {
                x.ask("filterTerms", filtered, 512);
            } else if (filtered == 3) {
                x.ask("filterTags", 128, 0);
            } else {
                x.ask("filterRange", filtered, 1, 0);
            }
            for (int field : GROUP_FIELDS) {
                x.due(field == filtered ? 3 : 0, "facet", field, 0);
            }
            for (int field : NUMBER_FIELDS) {
                x.due(field == filtered ? 3 : 0, "between", field, 0, 0);
            }
        }
    }

    private static void refusedCalls() {
        test("Terms", REFUSED + " (make)", TermsTests::refusedMake);
        test("Terms", REFUSED + " (remove)", TermsTests::refusedRemove);
        test("Terms", REFUSED + " (set)", TermsTests::refusedSet);
        test("Terms", REFUSED + " (filterTerms)", TermsTests::refusedFilterTerms);
        test("Terms", REFUSED + " (filterTags)", TermsTests::refusedFilterTags);
        test("Terms", REFUSED + " (filterRange)", TermsTests::refusedFilterRange);
        test("Terms", REFUSED + " (release)", TermsTests::refusedRelease);
    }

    private static void refused(Supplier<Desk> start, int want, String name, int... given) {
        start.get().due(want, name, given);
        changesNothing(start, name, given);
    }

    private static void refusedEverywhere(int want, String name, int... given) {
        for (Supplier<Desk> start : starts()) {
            refused(start, want, name, given);
        }
    }

    private static void refusedMake() {
        for (int bad : NOT_TERMS) {
            refusedEverywhere(-3, "make", bad, 1, 2);
            refusedEverywhere(-3, "make", 1, bad, 2);
            refusedEverywhere(-3, "make", 1, 2, bad);
        }
        refused(Desk::full, -4, "make", 1, 2, 3);
        refused(Desk::fullFiltered, -4, "make", 1, 2, 3);
    }

    private static void refusedRemove() {
        for (int bad : new int[] {-1, 48, MIN, MAX}) {
            refusedEverywhere(-1, "remove", bad);
        }
        for (int bad : NOT_DOCUMENTS_OF_EIGHT) {
            refused(Desk::fence, -1, "remove", bad);
        }
        for (int bad : new int[] {0, 47}) {
            refused(Desk::empty, -1, "remove", bad);
        }
        refused(Desk::gapped, -1, "remove", 3);
    }

    private static void refusedSet() {
        for (int field : FIELDS) {
            for (int bad : new int[] {-1, 48, MIN, MAX}) {
                refusedEverywhere(-1, "set", bad, field, 1);
            }
            refused(Desk::empty, -1, "set", 0, field, 1);
            refused(Desk::fence, -1, "set", 8, field, 1);
            refused(Desk::gapped, -1, "set", 3, field, 1);
            for (int bad : new int[] {-1000, field < 3 ? 10 : field == 3 ? 256 : 1000, MIN, MAX}) {
                refused(Desk::gapped, -3, "set", 0, field, bad);
                refused(Desk::fullFiltered, -3, "set", 47, field, bad);
            }
        }
        for (int bad : NOT_FIELDS) {
            refused(Desk::gapped, -2, "set", 1, bad, 1);
            refused(Desk::fullFiltered, -2, "set", 47, bad, 1);
            refused(Desk::fullFiltered, -2, "set", 0, bad, 1);
        }
    }

    private static void refusedFilterTerms() {
        for (int bad : NOT_TERM_FIELDS) {
            refusedEverywhere(-2, "filterTerms", bad, 3);
        }
        for (int field : TERM_FIELDS) {
            for (int bad : new int[] {0, -1, 1024, 1025, MIN, MAX}) {
                refusedEverywhere(-3, "filterTerms", field, bad);
            }
        }
    }

    private static void refusedFilterTags() {
        for (int bad : new int[] {0, -1, 256, 258, MIN, MAX}) {
            refusedEverywhere(-3, "filterTags", bad, 0);
        }
        for (int bad : new int[] {-1, 3, 4, MIN, MAX}) {
            refusedEverywhere(-5, "filterTags", 2, bad);
        }
    }

    private static void refusedFilterRange() {
        for (int bad : NOT_NUMBER_FIELDS) {
            refusedEverywhere(-2, "filterRange", bad, 1, 0);
            refusedEverywhere(-2, "filterRange", bad, 0, 3);
        }
    }

    private static void refusedRelease() {
        for (int bad : NOT_FIELDS) {
            refusedEverywhere(-2, "release", bad);
        }
    }

    private static void orders() {
        test("Terms", ORDER + " (make)", () -> Desk.full().due(-3, "make", 0, 0, 10));
        test("Terms", ORDER + " (set)", TermsTests::orderOfSet);
        test("Terms", ORDER + " (filterTerms)", () -> Desk.fence().due(-2, "filterTerms", 3, 0));
        test("Terms", ORDER + " (filterTags)", () -> Desk.fence().due(-3, "filterTags", 256, 3));
        test("Terms", ORDER + " (valueOf)", () -> Desk.fence().due(-1000, "valueOf", 8, 6));
        test("Terms", ORDER + " (facet)", () -> Desk.fence().due(-2, "facet", 4, 10));
        test("Terms", ORDER + " (topTerm)", () -> Desk.fence().due(-2, "topTerm", 4, 48));
        test("Terms", ORDER + " (ranked)", () -> Desk.fence().due(-2000, "ranked", 3, 48));
        test("Terms", ORDER + " (sorted)", TermsTests::orderOfSorted);
        test("Terms", ORDER + " (sum)", TermsTests::orderOfSum);
        test("Terms", ORDER + " (extreme)", TermsTests::orderOfExtreme);
        test("Terms", ORDER + " (box)", () -> Desk.fence().due(-2, "box", 3, 0, 0));
    }

    private static void orderOfSet() {
        Desk x = Desk.fence();
        x.due(-1, "set", 8, 6, 1000);
        x.due(-1, "set", 8, 6, 0);
        x.due(-1, "set", 8, 4, 1000);
        x.due(-2, "set", 0, 6, 1000);
    }

    private static void orderOfSorted() {
        Desk x = Desk.fence();
        x.due(-2, "sorted", 3, 2, 48);
        x.due(-2, "sorted", 3, 2, 0);
        x.due(-2, "sorted", 3, 0, 48);
        x.due(-5, "sorted", 4, 2, 48);
    }

    private static void orderOfSum() {
        Desk x = Desk.fence();
        x.due(-1000000, "sum", 4, 10, 4);
        x.due(-1000000, "sum", 0, 10, 3);
        x.due(-1000000, "sum", 3, 8, 6);
    }

    private static void orderOfExtreme() {
        for (Desk x : new Desk[] {Desk.empty(), Desk.fence()}) {
            x.due(-2000, "extreme", 480, 4);
            x.due(-2000, "extreme", 380, 3);
            x.due(-2000, "extreme", 382, 4);
            x.due(-2000, "extreme", 12, 4);
            x.due(-2001, "extreme", 380, 4);
            x.due(-2002, "extreme", 10, 4);
        }
    }

    private static void wrongDocumentsAndFields() {
        test("Terms", "A document that there is not: -1", TermsTests::noDocument);
        test("Terms", NO_FIELD + " (any field)", () -> {
            Desk x = Desk.fence();
            for (int bad : NOT_FIELDS) {
                x.due(-2, "set", 0, bad, 0);
                x.due(-2, "release", bad);
                x.due(-2, "different", bad);
            }
        });
        test("Terms", NO_FIELD + " (a term field)", () -> {
            Desk x = Desk.fence();
            for (int bad : NOT_TERM_FIELDS) {
                x.due(-2, "filterTerms", bad, 1);
                x.due(-2, "pairs", bad, 0);
                x.due(-2, "pairs", 0, bad);
            }
        });
        test("Terms", NO_FIELD + " (a term field or the set field)", () -> {
            Desk x = Desk.fence();
            for (int bad : NOT_GROUP_FIELDS) {
                x.due(-2, "facet", bad, 0);
                x.due(-2, "topTerm", bad, 0);
            }
        });
        test("Terms", NO_FIELD + " (a number field)", () -> {
            Desk x = Desk.fence();
            for (int bad : NOT_NUMBER_FIELDS) {
                x.due(-2, "filterRange", bad, 0, 0);
                x.due(-2, "between", bad, 0, 0);
                x.due(-2, "sorted", bad, 0, 0);
                x.due(-2, "box", bad, 1, 0);
            }
        });
    }

    private static void noDocument() {
        Desk x = Desk.fence();
        for (int bad : NOT_DOCUMENTS_OF_EIGHT) {
            x.due(-1, "remove", bad);
            x.due(-1, "set", bad, 0, 0);
        }
        x.ask("remove", 3);
        x.due(-1, "remove", 3);
        x.due(-1, "set", 3, 0, 0);
        x.ask("make", 0, 0, 0);
        x.due(0, "set", 3, 0, 0);
        x.due(7, "remove", 3);
    }

    private static void questions() {
        question("documents", new int[] {});
        question("valueOf", new int[] {0, 3}, new int[] {47, 4}, new int[] {48, 0}, new int[] {0, 6});
        question("matching", new int[] {});
        question("facet", new int[] {0, 9}, new int[] {3, 7}, new int[] {4, 0}, new int[] {3, 8});
        question("topTerm", new int[] {0, 0}, new int[] {3, 1}, new int[] {4, 0}, new int[] {0, MAX});
        question("between", new int[] {4, -5, 5}, new int[] {5, 5, -5}, new int[] {3, 0, 0});
        question("ranked", new int[] {4, 0}, new int[] {5, 1}, new int[] {3, 0}, new int[] {4, 48});
        question("sorted", new int[] {4, 0, 0}, new int[] {5, 1, 1}, new int[] {3, 0, 0}, new int[] {4, 2, 0},
            new int[] {4, 1, -1});
        question("sum", new int[] {0, 0, 4}, new int[] {3, 7, 5}, new int[] {4, 0, 4}, new int[] {0, 10, 4});
        question("extreme", new int[] {0, 4}, new int[] {371, 5}, new int[] {-1, 4}, new int[] {380, 4},
            new int[] {150, 4});
        question("different", new int[] {0}, new int[] {3}, new int[] {5}, new int[] {6});
        question("pairs", new int[] {0, 1}, new int[] {2, 2}, new int[] {3, 0});
        question("box", new int[] {4, 10, 0}, new int[] {5, 999, -1}, new int[] {3, 1, 0}, new int[] {4, 0, 0},
            new int[] {4, 512, MIN});
    }

    private static void question(String name, int[]... givens) {
        test("Terms", QUESTIONS + " (" + name + ")", () -> {
            for (Supplier<Desk> start : starts()) {
                for (int[] given : givens) {
                    changesNothing(start, name, given);
                }
            }
        });
    }

    public static void main(String[] args) {
        calls();
        documentsAndFields();
        filters();
        refusedCalls();
        orders();
        wrongDocumentsAndFields();
        questions();
        end();
    }
}
