import java.util.Set;
import java.util.TreeSet;
import java.util.function.Consumer;

/** Each sentence of promises 1 to 8 that names a boundary, with a test of its own. */
public final class ChangeTests extends Sentences {
    private static void newObject() {
        test("Promise 1", "No documents", ChangeTests::noDocuments);
        test("Promise 1", "no filters", ChangeTests::noFilters);
    }

    private static void noDocuments() {
        Desk.fullFiltered();
        Desk x = Desk.empty();
        x.due(0, "documents");
        x.due(0, "matching");
        for (int d = 0; d < 48; d++) {
            x.due(-1000, "valueOf", d, 0);
            x.due(-1, "remove", d);
            x.due(-1, "set", d, 0, 0);
        }
        x.due(0, "make", 0, 0, 0);
    }

    private static void noFilters() {
        Desk.fullFiltered().shut();
        Desk x = Desk.of(Desk.row(0, 0, 0, 0, -999, -999), Desk.row(9, 9, 9, 255, 999, 999));
        x.due(2, "matching");
        for (int field : FIELDS) {
            x.due(2, "release", field);
        }
        for (int field : FIELDS) {
            Desk.empty().due(0, "release", field);
        }
    }

    private static void make() {
        test("Promise 2", "with the terms a, b and c in the fields 0 to 2", ChangeTests::makesTerms);
        test("Promise 2", "no tags", () -> madeAgainHas(3));
        test("Promise 2", "and the numbers 0", () -> {
            madeAgainHas(4);
            madeAgainHas(5);
        });
        test("Promise 2", "its number is the least that is free", ChangeTests::leastFree);
        test("Promise 2", "A term is not 0 to 9: -3", ChangeTests::wrongTerms);
        test("Promise 2", "there are 48 documents: -4", ChangeTests::noneFree);
        test("Promise 2", "A term is not 0 to 9: -3; there are 48 documents: -4 (both)", ChangeTests::wrongTermsOfFull);
        test("Promise 2", "Else answers its number.", ChangeTests::answersNumber);
        test("Promise 2", "Makes a new document (with filters)", ChangeTests::madeUnderFilters);
        test("Promise 2", "Makes a new document (and changes nothing else)", () -> {
            changeNothing(Desk::empty, "make and remove", x -> thereAndBack(x, 0));
            changeNothing(Desk::gapped, "make and remove", x -> thereAndBack(x, 3));
        });
        test("Promise 2", "Makes a new document (the filters stay)", () -> {
            int next = Desk.edgeRows().length;
            filtersStay(x -> x.due(next, "make", 9, 9, 9));
        });
    }

    private static void thereAndBack(Desk x, int document) {
        x.due(document, "make", 5, 6, 7);
        x.ask("remove", document);
    }

    private static void filtersStay(Consumer<Desk> calls) {
        filtersStayBut(-1, calls);
    }

    /** The calls may change the last document of the edges, as long as it goes on failing by its number in field 5. */
    private static void filtersStayBut(int released, Consumer<Desk> calls) {
        Desk x = Desk.edges();
        calls.accept(x);
        int[][] rows = Desk.edgeRows();
        Set<Integer> due = new TreeSet<>();
        for (int d = 0; d < rows.length; d++) {
            if (passesAllBut(released, rows[d])) {
                due.add(d);
            }
        }
        Set<Integer> matching = new TreeSet<>();
        for (int k = 0; k < due.size(); k++) {
            matching.add(x.ask("sorted", 4, 0, k));
        }
        x.due(due.size(), "matching");
        if (!matching.equals(due)) {
            fail("the documents " + matching + " match, due are " + due);
        }
        for (int d = 0; d < rows.length - 1; d++) {
            for (int field : FIELDS) {
                x.due(rows[d][field], "valueOf", d, field);
            }
        }
    }

    private static boolean passesAllBut(int released, int[] row) {
        boolean passes = true;
        for (int field : FIELDS) {
            passes &= field == released || Desk.passesEdge(row, field);
        }
        return passes;
    }

    private static void makesTerms() {
        for (int term = 0; term <= 9; term++) {
            Desk x = Desk.empty();
            x.ask("make", term, 9 - term, (term + 5) % 10);
            x.due(term, "valueOf", 0, 0);
            x.due(9 - term, "valueOf", 0, 1);
            x.due((term + 5) % 10, "valueOf", 0, 2);
        }
    }

    private static void madeAgainHas(int field) {
        for (int document : new int[] {0, 20, 47}) {
            Desk x = Desk.empty();
            for (int d = 0; d < 48; d++) {
                x.ask("make", 9, 9, 9);
                x.due(0, "valueOf", d, field);
            }
            x.ask("set", document, field, 255);
            x.ask("remove", document);
            x.due(document, "make", 9, 9, 9);
            x.due(0, "valueOf", document, field);
            x.due(0, "set", document, field, 0);
        }
    }

    private static void leastFree() {
        Desk x = Desk.full();
        for (int document : new int[] {0, 1, 23, 46, 47}) {
            x.ask("remove", document);
            x.due(document, "make", 1, 1, 1);
        }
        for (int document : new int[] {47, 0, 30, 29}) {
            x.ask("remove", document);
        }
        for (int document : new int[] {0, 29, 30, 47}) {
            x.due(document, "make", 1, 1, 1);
        }
        for (int document = 0; document < 48; document++) {
            x.ask("remove", document);
        }
        x.due(0, "make", 1, 1, 1);
        x.due(1, "make", 1, 1, 1);
        x.ask("remove", 0);
        x.due(0, "make", 1, 1, 1);
        x.due(2, "make", 1, 1, 1);
    }

    private static void wrongTerms() {
        Desk x = Desk.empty();
        for (int bad : NOT_TERMS) {
            x.due(-3, "make", bad, 0, 9);
            x.due(-3, "make", 9, bad, 0);
            x.due(-3, "make", 0, 9, bad);
        }
        x.due(0, "documents");
        x.due(0, "make", 0, 0, 0);
        x.due(1, "make", 9, 9, 9);
    }

    private static void noneFree() {
        Desk x = Desk.alike(47, 0, 0, 0, 0, 0, 0);
        x.due(47, "make", 0, 0, 0);
        x.due(-4, "make", 0, 0, 0);
        x.due(-4, "make", 9, 9, 9);
        x.due(48, "documents");
        x.shut();
        x.due(-4, "make", 0, 0, 0);
        x.ask("remove", 0);
        x.due(0, "make", 0, 0, 0);
        x.due(-4, "make", 0, 0, 0);
    }

    private static void wrongTermsOfFull() {
        Desk x = Desk.full();
        for (int bad : NOT_TERMS) {
            x.due(-3, "make", bad, 0, 0);
            x.due(-3, "make", 0, bad, 0);
            x.due(-3, "make", 0, 0, bad);
        }
    }

    private static void answersNumber() {
        Desk x = Desk.empty();
        for (int d = 0; d < 48; d++) {
            x.due(d, "make", 9, 9, 9);
        }
    }

    private static void madeUnderFilters() {
        Desk x = Desk.fence();
        x.due(8, "make", 0, 0, 0);
        x.due(1, "matching");
        x.due(1, "set", 8, 3, 1);
        x.due(2, "matching");
    }

    private static void remove() {
        test("Promise 3", "Takes a document out.", ChangeTests::takesOut);
        test("Promise 3", "Takes a document out. (the others stay)", ChangeTests::othersStay);
        test("Promise 3", "Takes a document out. (the filters stay)", () -> {
            int last = Desk.edgeRows().length - 1;
            filtersStay(x -> x.due(last, "remove", last));
        });
        test("Promise 3", "Document: -1.", ChangeTests::removeNoDocument);
        test("Promise 3", "Else answers how many are left.", ChangeTests::howManyAreLeft);
    }

    private static void takesOut() {
        for (int document : new int[] {0, 1}) {
            Desk x = Desk.of(Desk.row(0, 0, 0, 1, 0, 0), Desk.row(0, 0, 0, 1, 0, 0));
            x.ask("remove", document);
            x.due(1, "documents");
            x.due(-1000, "valueOf", document, 0);
            x.due(1, "matching");
            x.due(1, "facet", 0, 0);
            x.due(1, "facet", 3, 0);
            x.due(1, "between", 4, 0, 0);
            x.due(-2001, "ranked", 4, 1);
            x.due(1 - document, "sorted", 4, 0, 0);
            x.due(-6, "sorted", 4, 0, 1);
            x.due(1, "box", 4, 1, 0);
        }
        nothingOfTheOnlyOne();
    }

    private static void nothingOfTheOnlyOne() {
        Desk x = Desk.of(Desk.row(0, 0, 0, 1, 7, 7));
        x.ask("remove", 0);
        x.due(-6, "topTerm", 0, 0);
        x.due(-6, "topTerm", 3, 0);
        x.due(0, "sum", 0, 0, 4);
        x.due(0, "sum", 3, 0, 5);
        x.due(-2002, "extreme", 0, 4);
        x.due(-2002, "extreme", 301, 5);
        x.due(0, "different", 4);
        x.due(0, "pairs", 0, 1);
    }

    private static void othersStay() {
        for (int gone : new int[] {0, 23, 47}) {
            Desk x = Desk.full();
            x.ask("remove", gone);
            for (int d = 0; d < 48; d++) {
                x.due(d == gone ? -1000 : d % 10, "valueOf", d, 0);
                x.due(d == gone ? -1000 : Desk.fullTags(d), "valueOf", d, 3);
                x.due(d == gone ? -1000 : Desk.fullNumber(d), "valueOf", d, 4);
            }
        }
    }

    private static void removeNoDocument() {
        for (int bad : new int[] {-1, 0, 47, 48, MIN, MAX}) {
            Desk.empty().due(-1, "remove", bad);
        }
        for (int bad : NOT_DOCUMENTS_OF_EIGHT) {
            Desk.fence().due(-1, "remove", bad);
        }
        for (int bad : new int[] {-1, 48, MIN, MAX}) {
            Desk.full().due(-1, "remove", bad);
        }
        Desk x = Desk.full();
        for (int document : new int[] {0, 20, 47}) {
            x.ask("remove", document);
            x.due(-1, "remove", document);
        }
    }

    private static void howManyAreLeft() {
        Desk x = Desk.full().shut();
        for (int d = 47; d >= 0; d--) {
            x.due(d, "remove", d);
        }
        Desk y = Desk.full();
        for (int d = 0; d < 48; d++) {
            y.due(47 - d, "remove", d);
        }
    }

    private static void set() {
        String range = "value is not in the field's range (0 to 9, 0 to 255, or -999 to 999): -3";
        test("Promise 4", "Gives a document another term, set or number in a field.", ChangeTests::givesAnother);
        test("Promise 4", "Gives a document another term, set or number in a field. (it does not match)",
            ChangeTests::givesWithoutMatching);
        test("Promise 4", "Gives a document another term, set or number in a field. (and changes nothing else)", () -> {
            int[] had = {0, 0, 0, 1, 0, 0};
            for (int field : FIELDS) {
                changeNothing(Desk::gapped, "set and set back", x -> {
                    x.ask("set", 0, field, 7);
                    x.ask("set", 0, field, had[field]);
                });
            }
        });
        test("Promise 4", "Gives a document another term, set or number in a field. (the filters stay)", () -> {
            int last = Desk.edgeRows().length - 1;
            for (int field : FIELDS) {
                filtersStay(x -> x.due(1, "set", last, field, field < 3 ? 9 : 99));
                filtersStay(x -> x.due(0, "set", last, field, x.ask("valueOf", last, field)));
            }
        });
        test("Promise 4", "Document: -1", ChangeTests::setNoDocument);
        test("Promise 4", "field: -2", ChangeTests::setNoField);
        test("Promise 4", range + " (a term)", () -> {
            for (int field : TERM_FIELDS) {
                valuesOf(field, 0, 9);
            }
        });
        test("Promise 4", range + " (a set)", () -> valuesOf(3, 0, 255));
        test("Promise 4", range + " (a number)", () -> {
            valuesOf(4, -999, 999);
            valuesOf(5, -999, 999);
        });
        test("Promise 4", "Document: -1; field: -2; " + range + " (more than one of them)", ChangeTests::setOrder);
        test("Promise 4", "Else answers 1 if it had another one, else 0.", ChangeTests::hadAnother);
    }

    private static void givesAnother() {
        int[] before = {4, 5, 6, 7, 8, 9};
        for (int document = 0; document < 3; document++) {
            for (int field : FIELDS) {
                Desk x = Desk.alike(3, before);
                x.ask("set", document, field, 1);
                for (int d = 0; d < 3; d++) {
                    for (int f : FIELDS) {
                        x.due(d == document && f == field ? 1 : before[f], "valueOf", d, f);
                    }
                }
            }
        }
        Desk last = Desk.full();
        for (int field : FIELDS) {
            last.ask("set", 47, field, 3);
            last.due(3, "valueOf", 47, field);
        }
        last.due(0, "valueOf", 0, 0);
        last.due(Desk.fullNumber(46), "valueOf", 46, 4);
    }

    private static void givesWithoutMatching() {
        Desk x = Desk.fence();
        x.due(1, "set", 1, 0, 4);
        x.due(2, "matching");
        x.due(1, "set", 1, 0, 5);
        x.due(1, "matching");
        x.due(5, "valueOf", 1, 0);
    }

    private static void setNoDocument() {
        for (int field : FIELDS) {
            for (int bad : NOT_DOCUMENTS_OF_EIGHT) {
                Desk.fence().due(-1, "set", bad, field, 0);
            }
            for (int bad : new int[] {-1, 0, 47, 48}) {
                Desk.empty().due(-1, "set", bad, field, 0);
            }
            Desk x = Desk.full();
            x.due(-1, "set", 48, field, 0);
            x.ask("remove", 47);
            x.due(-1, "set", 47, field, 0);
        }
    }

    private static void setNoField() {
        for (Desk x : new Desk[] {Desk.fence(), Desk.full()}) {
            for (int bad : NOT_FIELDS) {
                x.due(-2, "set", 0, bad, 0);
                x.due(-2, "set", 7, bad, 0);
            }
        }
    }

    private static void valuesOf(int field, int least, int greatest) {
        Desk x = Desk.fence();
        x.ask("set", 0, field, 1);
        for (int bad : new int[] {least - 1, greatest + 1, MIN, MAX}) {
            x.due(-3, "set", 0, field, bad);
            x.due(1, "valueOf", 0, field);
        }
        for (int good : new int[] {least, greatest}) {
            x.due(1, "set", 0, field, good);
            x.due(good, "valueOf", 0, field);
        }
    }

    private static void setOrder() {
        Desk x = Desk.fence();
        for (int noDocument : NOT_DOCUMENTS_OF_EIGHT) {
            x.due(-1, "set", noDocument, 0, -1);
            for (int noField : NOT_FIELDS) {
                x.due(-1, "set", noDocument, noField, 0);
                x.due(-1, "set", noDocument, noField, MIN);
            }
        }
        for (int noField : NOT_FIELDS) {
            x.due(-2, "set", 0, noField, MAX);
            x.due(-2, "set", 0, noField, 1000);
        }
    }

    private static void hadAnother() {
        int[] least = {0, 0, 0, 0, -999, -999};
        int[] greatest = {9, 9, 9, 255, 999, 999};
        for (int field : FIELDS) {
            Desk x = Desk.alike(2, 5, 5, 5, 0, 0, 0);
            x.due(0, "set", 0, field, x.ask("valueOf", 0, field));
            x.due(1, "set", 0, field, greatest[field]);
            x.due(0, "set", 0, field, greatest[field]);
            x.due(1, "set", 0, field, least[field]);
            x.due(0, "set", 0, field, least[field]);
            x.due(1, "set", 0, field, least[field] + 1);
            x.due(1, "set", 1, field, greatest[field]);
        }
    }

    private static void filterTerms() {
        test("Promise 5", "Sets the filter of a term field.", ChangeTests::filtersTermFields);
        test("Promise 5", "Sets the filter of a term field. (and changes nothing else)", () -> {
            for (int field : TERM_FIELDS) {
                changeNothing(Desk::gapped, "filterTerms and filterTerms back", x -> {
                    x.ask("filterTerms", field, 512);
                    filterAgain(x, field);
                });
            }
        });
        test("Promise 5", "Sets the filter of a term field. (the others stay)", () -> {
            for (int field : TERM_FIELDS) {
                filtersStayBut(field, x -> x.ask("filterTerms", field, 1023));
            }
        });
        test("Promise 5", "Field: -2", () -> {
            for (int bad : NOT_TERM_FIELDS) {
                Desk.fence().due(-2, "filterTerms", bad, 1);
                Desk.empty().due(-2, "filterTerms", bad, 1023);
            }
        });
        test("Promise 5", "terms is not 1 to 1023: -3", ChangeTests::wrongTermSets);
        test("Promise 5", "Field: -2; terms is not 1 to 1023: -3 (both)", () -> {
            for (int noField : NOT_TERM_FIELDS) {
                for (int bad : new int[] {0, -1, 1024, MIN, MAX}) {
                    Desk.fence().due(-2, "filterTerms", noField, bad);
                }
            }
        });
        test("Promise 5", "Else answers how many documents match.", ChangeTests::matchTerms);
    }

    /** The filter that the field has on a gapped desk. */
    private static void filterAgain(Desk x, int field) {
        if (field < 3) {
            x.ask("filterTerms", field, 0b0000011111);
        } else if (field == 3) {
            x.ask("filterTags", 0b00000001, 0);
        } else {
            x.ask("filterRange", field, -10, 10);
        }
    }

    private static void filtersTermFields() {
        for (int field : TERM_FIELDS) {
            Desk x = Desk.of(Desk.row(0, 1, 2, 0, 0, 0), Desk.row(1, 2, 0, 0, 0, 0), Desk.row(2, 0, 1, 0, 0, 0));
            x.ask("filterTerms", field, 1);
            x.due(1, "matching");
            x.due(field == 0 ? 0 : 3 - field, "sorted", 4, 0, 0);
        }
    }

    private static void wrongTermSets() {
        for (int field : TERM_FIELDS) {
            Desk x = Desk.of(Desk.row(0, 0, 0, 0, 0, 0), Desk.row(9, 9, 9, 0, 0, 0));
            for (int bad : new int[] {0, -1, 1024, 1025, MIN, MAX}) {
                x.due(-3, "filterTerms", field, bad);
            }
            x.due(2, "matching");
            x.due(1, "filterTerms", field, 1);
            x.due(2, "filterTerms", field, 1023);
        }
    }

    private static void matchTerms() {
        for (int field : TERM_FIELDS) {
            Desk.empty().due(0, "filterTerms", field, 1023);
            Desk.full().due(48, "filterTerms", field, 1023);
            Desk.full().shut().due(0, "filterTerms", field, 1023);
            Desk.alike(48, 8, 8, 8, 0, 0, 0).due(0, "filterTerms", field, 1023 - 256);
            Desk.alike(48, 8, 8, 8, 0, 0, 0).due(48, "filterTerms", field, 256);
            Desk.fence().due(2, "filterTerms", field, 1023);
            Desk.fence().due(1, "filterTerms", field, 512);
            Desk.fence().due(0, "filterTerms", field, 2);
        }
    }

    private static void filterTags() {
        test("Promise 6", "Sets the filter of the set field.", () -> {
            Desk x = Desk.of(Desk.row(0, 0, 0, 1, 0, 0), Desk.row(0, 0, 0, 128, 0, 0));
            x.ask("filterTags", 128, 0);
            x.due(1, "matching");
            x.due(1, "sorted", 4, 0, 0);
            x.due(1, "facet", 3, 0);
        });
        test("Promise 6", "Sets the filter of the set field. (and changes nothing else)", () -> {
            changeNothing(Desk::gapped, "filterTags and filterTags back", x -> {
                x.ask("filterTags", 128, 2);
                filterAgain(x, 3);
            });
        });
        test("Promise 6", "Sets the filter of the set field. (the others stay)",
            () -> filtersStayBut(3, x -> x.ask("filterTags", 64, 2)));
        test("Promise 6", "tags is not 1 to 255: -3", ChangeTests::wrongTagSets);
        test("Promise 6", "mode is not 0 to 2: -5", ChangeTests::wrongModes);
        test("Promise 6", "tags is not 1 to 255: -3; mode is not 0 to 2: -5 (both)", () -> {
            for (int tags : new int[] {0, -1, 256, MIN, MAX}) {
                for (int mode : new int[] {-1, 3, MIN, MAX}) {
                    Desk.fence().due(-3, "filterTags", tags, mode);
                }
            }
        });
        test("Promise 6", "Else answers how many documents match.", ChangeTests::matchTags);
    }

    private static void wrongTagSets() {
        Desk x = Desk.of(Desk.row(0, 0, 0, 1, 0, 0), Desk.row(0, 0, 0, 255, 0, 0));
        for (int mode = 0; mode <= 2; mode++) {
            for (int bad : new int[] {0, -1, 256, 257, MIN, MAX}) {
                x.due(-3, "filterTags", bad, mode);
            }
        }
        x.due(2, "matching");
        x.due(2, "filterTags", 1, 1);
        x.due(1, "filterTags", 255, 1);
    }

    private static void wrongModes() {
        Desk x = Desk.of(Desk.row(0, 0, 0, 1, 0, 0), Desk.row(0, 0, 0, 3, 0, 0), Desk.row(0, 0, 0, 3, 0, 0));
        for (int tags : new int[] {1, 255}) {
            for (int bad : new int[] {-1, 3, 4, MIN, MAX}) {
                x.due(-5, "filterTags", tags, bad);
            }
        }
        x.due(3, "matching");
        x.due(3, "filterTags", 3, 0);
        x.due(2, "filterTags", 3, 1);
        x.due(1, "filterTags", 2, 2);
    }

    private static void matchTags() {
        for (int mode = 0; mode <= 2; mode++) {
            Desk.empty().due(0, "filterTags", 255, mode);
            Desk.full().shut().due(0, "filterTags", 1, mode);
        }
        Desk.alike(48, 0, 0, 0, 255, 0, 0).due(48, "filterTags", 255, 0);
        Desk.alike(48, 0, 0, 0, 255, 0, 0).due(48, "filterTags", 255, 1);
        Desk.alike(48, 0, 0, 0, 255, 0, 0).due(0, "filterTags", 1, 2);
        Desk.alike(48, 0, 0, 0, 0, 0, 0).due(0, "filterTags", 255, 0);
        Desk.alike(48, 0, 0, 0, 0, 0, 0).due(0, "filterTags", 1, 1);
        Desk.alike(48, 0, 0, 0, 0, 0, 0).due(48, "filterTags", 255, 2);
        Desk.fence().due(2, "filterTags", 129, 0);
        Desk.fence().due(0, "filterTags", 129, 1);
        Desk.fence().due(1, "filterTags", 1, 2);
    }

    private static void filterRange() {
        test("Promise 7", "Sets the filter of a number field to the range from least to greatest", () -> {
            for (int field : NUMBER_FIELDS) {
                Desk x = Desk.of(Desk.row(0, 0, 0, 0, 5, -5), Desk.row(0, 0, 0, 0, -5, 5));
                x.ask("filterRange", field, 5, 5);
                x.due(1, "matching");
                x.due(field - 4, "sorted", 4, 0, 0);
            }
        });
        test("Promise 7", "Sets the filter of a number field (and changes nothing else)", () -> {
            for (int field : NUMBER_FIELDS) {
                changeNothing(Desk::gapped, "filterRange and filterRange back", x -> {
                    x.ask("filterRange", field, 1, 0);
                    filterAgain(x, field);
                });
            }
        });
        test("Promise 7", "Sets the filter of a number field (the others stay)", () -> {
            for (int field : NUMBER_FIELDS) {
                filtersStayBut(field, x -> x.ask("filterRange", field, MIN, MAX));
            }
        });
        test("Promise 7", "any ints", ChangeTests::anyRange);
        test("Promise 7", "no number is in it if least is above greatest", ChangeTests::turnedRange);
        test("Promise 7", "Field: -2.", () -> {
            for (int bad : NOT_NUMBER_FIELDS) {
                Desk.fence().due(-2, "filterRange", bad, 0, 9);
                Desk.empty().due(-2, "filterRange", bad, MIN, MAX);
                Desk.full().due(-2, "filterRange", bad, 1, 0);
            }
        });
        test("Promise 7", "Else answers how many documents match.", ChangeTests::matchRange);
    }

    private static void anyRange() {
        for (int field : NUMBER_FIELDS) {
            Desk x = Desk.full();
            x.due(48, "filterRange", field, MIN, MAX);
            x.due(48, "filterRange", field, -999, 999);
            x.due(48, "filterRange", field, MIN, 999);
            x.due(48, "filterRange", field, -999, MAX);
            x.due(47, "filterRange", field, MIN, 998);
            x.due(47, "filterRange", field, -998, MAX);
            x.due(1, "filterRange", field, MIN, -999);
            x.due(1, "filterRange", field, 999, MAX);
            x.due(0, "filterRange", field, MIN, -1000);
            x.due(0, "filterRange", field, 1000, MAX);
            x.due(0, "filterRange", field, MIN, MIN);
            x.due(0, "filterRange", field, MAX, MAX);
        }
    }

    private static void turnedRange() {
        for (int field : NUMBER_FIELDS) {
            Desk x = Desk.of(
                Desk.row(0, 0, 0, 0, -999, -999), Desk.row(0, 0, 0, 0, 0, 0), Desk.row(0, 0, 0, 0, 999, 999));
            x.due(0, "filterRange", field, 1, 0);
            x.due(0, "filterRange", field, 0, -1);
            x.due(0, "filterRange", field, 999, -999);
            x.due(0, "filterRange", field, 1000, 999);
            x.due(0, "filterRange", field, -999, -1000);
            x.due(0, "filterRange", field, MAX, MIN);
            x.due(0, "filterRange", field, MIN + 1, MIN);
            x.due(0, "matching");
            x.due(3, "release", field);
        }
    }

    private static void matchRange() {
        for (int field : NUMBER_FIELDS) {
            Desk.empty().due(0, "filterRange", field, MIN, MAX);
            Desk.full().due(48, "filterRange", field, MIN, MAX);
            Desk.fence().due(2, "filterRange", field, 0, 11);
            Desk.fence().due(1, "filterRange", field, 11, 11);
            Desk.fence().due(0, "filterRange", field, 1, 10);
        }
        Desk.full().shut().due(0, "filterRange", 5, MIN, MAX);
    }

    private static void release() {
        test("Promise 8", "Takes the filter of a field away.", ChangeTests::takesAway);
        test("Promise 8", "Takes the filter of a field away. (there is none)", ChangeTests::takesNothingAway);
        test("Promise 8", "Takes the filter of a field away. (and changes nothing else)", () -> {
            for (int field : FIELDS) {
                changeNothing(Desk::gapped, "release and filter again", x -> {
                    x.ask("release", field);
                    filterAgain(x, field);
                });
            }
        });
        test("Promise 8", "Takes the filter of a field away. (the others stay)", () -> {
            for (int field : FIELDS) {
                filtersStayBut(field, x -> x.ask("release", field));
            }
        });
        test("Promise 8", "Field: -2.", () -> {
            for (int bad : NOT_FIELDS) {
                Desk.empty().due(-2, "release", bad);
                Desk.fence().due(-2, "release", bad);
                Desk.full().due(-2, "release", bad);
            }
        });
        test("Promise 8", "Else answers how many documents match.", ChangeTests::matchReleased);
    }

    private static void takesAway() {
        for (int field : FIELDS) {
            Desk x = Desk.fence();
            x.ask("release", field);
            x.due(2, "matching");
            for (int other : FIELDS) {
                x.due(field == other ? 2 : 1, "different", other);
            }
        }
    }

    private static void takesNothingAway() {
        for (int field : FIELDS) {
            Desk x = Desk.fence();
            x.due(2, "release", field);
            x.due(2, "release", field);
            x.due(2, "matching");
            Desk.full().due(48, "release", field);
        }
    }

    private static void matchReleased() {
        for (int field : FIELDS) {
            Desk.empty().due(0, "release", field);
            Desk.fence().due(2, "release", field);
            Desk.full().shut().due(field == 4 ? 48 : 0, "release", field);
        }
    }

    public static void main(String[] args) {
        newObject();
        make();
        remove();
        set();
        filterTerms();
        filterTags();
        filterRange();
        release();
        end();
    }
}
