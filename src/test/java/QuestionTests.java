/** Each sentence of promises 9 to 21 that names a boundary, with a test of its own. */
public final class QuestionTests extends Sentences {
    /** Places in an order: below the first one, or behind the last one of any desk. */
    private static final int[] NO_PLACES = {-1, 48, MIN, MAX};

    private static void documents() {
        test("Promise 9", "How many documents there are.", () -> {
            Desk x = Desk.empty();
            x.due(0, "documents");
            for (int d = 1; d <= 48; d++) {
                x.ask("make", 0, 0, 0);
                x.due(d, "documents");
            }
            x.ask("make", 0, 0, 0);
            x.due(48, "documents");
            x.ask("remove", 0);
            x.due(47, "documents");
        });
        test("Promise 9", "How many documents there are. (none of them match)", () -> {
            Desk.full().shut().due(48, "documents");
            Desk.fence().due(8, "documents");
            Desk.empty().shut().due(0, "documents");
        });
    }

    private static void valueOf() {
        test("Promise 10", "What a document has in a field.", QuestionTests::whatItHas);
        test("Promise 10", "Document: -1000", () -> {
            for (int field : FIELDS) {
                for (int bad : NOT_DOCUMENTS_OF_EIGHT) {
                    Desk.fence().due(-1000, "valueOf", bad, field);
                }
                for (int bad : new int[] {-1, 0, 47, 48}) {
                    Desk.empty().due(-1000, "valueOf", bad, field);
                }
                Desk x = Desk.full();
                x.due(-1000, "valueOf", -1, field);
                x.due(-1000, "valueOf", 48, field);
                x.ask("remove", 47);
                x.due(-1000, "valueOf", 47, field);
            }
        });
        test("Promise 10", "field: -1001", () -> {
            for (int bad : NOT_FIELDS) {
                Desk.fence().due(-1001, "valueOf", 0, bad);
                Desk.full().due(-1001, "valueOf", 0, bad);
                Desk.full().due(-1001, "valueOf", 47, bad);
            }
        });
        test("Promise 10", "Document: -1000; field: -1001 (both)", () -> {
            for (int noField : NOT_FIELDS) {
                for (int noDocument : NOT_DOCUMENTS_OF_EIGHT) {
                    Desk.fence().due(-1000, "valueOf", noDocument, noField);
                }
            }
        });
    }

    private static void whatItHas() {
        int[] least = {0, 0, 0, 0, -999, -999};
        int[] greatest = {9, 9, 9, 255, 999, 999};
        Desk x = Desk.alike(48, 0, 0, 0, 0, 0, 0);
        for (int field : FIELDS) {
            x.ask("set", 0, field, least[field]);
            x.ask("set", 47, field, greatest[field]);
        }
        x.shut();
        for (int field : FIELDS) {
            x.due(least[field], "valueOf", 0, field);
            x.due(greatest[field], "valueOf", 47, field);
            x.due(0, "valueOf", 46, field);
        }
    }

    private static void matching() {
        test("Promise 11", "How many documents match. (no documents)", () -> {
            Desk.empty().due(0, "matching");
            Desk.empty().shut().due(0, "matching");
        });
        test("Promise 11", "How many documents match. (no filters)", () -> {
            Desk.full().due(48, "matching");
            Desk.alike(1, 0, 0, 0, 0, 0, 0).due(1, "matching");
        });
        test("Promise 11", "How many documents match. (none does)", () -> Desk.full().shut().due(0, "matching"));
        test("Promise 11", "How many documents match. (filters that all pass)", () -> {
            Desk x = Desk.full();
            for (int field : TERM_FIELDS) {
                x.ask("filterTerms", field, 1023);
            }
            x.ask("set", 0, 3, 255);
            x.ask("filterTags", 255, 0);
            x.ask("filterRange", 4, -999, 999);
            x.ask("filterRange", 5, MIN, MAX);
            x.due(48, "matching");
        });
        test("Promise 11", "How many documents match. (the others fail by one filter each)", () -> {
            Desk x = Desk.fence();
            x.due(1, "matching");
            x.ask("remove", 0);
            x.due(0, "matching");
        });
    }

    private static void facet() {
        test("Promise 12", "How many documents that match beside a term field", () -> {
            for (int field : TERM_FIELDS) {
                facetBeside(field);
            }
            Desk.full().due(5, "facet", 0, 7);
            Desk.full().due(4, "facet", 0, 8);
            Desk.full().due(8, "facet", 1, 4);
            Desk.full().due(0, "facet", 1, 5);
        });
        test("Promise 12", "(or the set field)", () -> facetBeside(3));
        test("Promise 12", "have a term (or tag) in it (a document with many tags, and one with none)", () -> {
            Desk x = Desk.of(Desk.row(0, 0, 0, 255, 0, 0), Desk.row(0, 0, 0, 0, 0, 0), Desk.row(0, 0, 0, 129, 0, 0));
            for (int tag = 0; tag <= 7; tag++) {
                x.due(tag == 0 || tag == 7 ? 2 : 1, "facet", 3, tag);
            }
        });
        test("Promise 12", "Field (0 to 3): -2", () -> {
            for (int bad : NOT_GROUP_FIELDS) {
                Desk.fence().due(-2, "facet", bad, 0);
                Desk.empty().due(-2, "facet", bad, 7);
            }
        });
        test("Promise 12", "term is not 0 to 9", () -> {
            for (int field : TERM_FIELDS) {
                notATermOf(field);
            }
        });
        test("Promise 12", "or tag not 0 to 7: -3", () -> notATermOf(3));
        test("Promise 12", "Field (0 to 3): -2; term is not 0 to 9, or tag not 0 to 7: -3 (both)", () -> {
            for (int noField : NOT_GROUP_FIELDS) {
                for (int noTerm : NOT_TERMS) {
                    Desk.fence().due(-2, "facet", noField, noTerm);
                }
            }
        });
    }

    private static void facetBeside(int field) {
        int greatest = greatestTermOf(field);
        Desk x = Desk.fence();
        x.due(1, "facet", field, 0);
        x.due(1, "facet", field, greatest);
        x.due(0, "facet", field, 1);
        Desk all = Desk.alike(48, 9, 9, 9, 128, 0, 0);
        all.due(48, "facet", field, greatest);
        all.due(0, "facet", field, 0);
        all.shut().due(0, "facet", field, greatest);
        for (int term = 0; term <= greatest; term++) {
            Desk.empty().due(0, "facet", field, term);
        }
    }

    private static void notATermOf(int field) {
        for (int bad : notTermsOf(field)) {
            Desk.empty().due(-3, "facet", field, bad);
            Desk.fence().due(-3, "facet", field, bad);
        }
        Desk.fence().due(1, "facet", field, 0);
        Desk.fence().due(1, "facet", field, greatestTermOf(field));
    }

    private static void topTerm() {
        test("Promise 13", "Of the terms (or tags) of a term field (or the set field) with a facet above 0",
            QuestionTests::termsWithAFacet);
        test("Promise 13", "the k-th (0 for the first)", QuestionTests::everyTerm);
        test("Promise 13", "when those with the greater facet come first", QuestionTests::greaterFacetFirst);
        test("Promise 13", "and of equal ones the lesser term", QuestionTests::lesserTermFirst);
        test("Promise 13", "Field (0 to 3): -2", () -> {
            for (int bad : NOT_GROUP_FIELDS) {
                Desk.fence().due(-2, "topTerm", bad, 0);
                Desk.full().due(-2, "topTerm", bad, 0);
            }
        });
        test("Promise 13", "there is none: -6", QuestionTests::noTopTerm);
        test("Promise 13", "Field (0 to 3): -2; there is none: -6 (both)", () -> {
            for (int bad : NOT_GROUP_FIELDS) {
                Desk.empty().due(-2, "topTerm", bad, 0);
                for (int k : NO_PLACES) {
                    Desk.fence().due(-2, "topTerm", bad, k);
                }
            }
        });
    }

    private static void termsWithAFacet() {
        for (int field : GROUP_FIELDS) {
            Desk x = Desk.fence();
            x.due(0, "topTerm", field, 0);
            x.due(greatestTermOf(field), "topTerm", field, 1);
            x.due(-6, "topTerm", field, 2);
        }
        Desk noTags = Desk.alike(48, 0, 0, 0, 0, 0, 0);
        noTags.due(-6, "topTerm", 3, 0);
    }

    private static void everyTerm() {
        Desk x = Desk.alike(10, 0, 0, 0, 255, 0, 0);
        for (int d = 0; d <= 9; d++) {
            for (int field : TERM_FIELDS) {
                x.ask("set", d, field, d);
            }
        }
        for (int field : GROUP_FIELDS) {
            for (int k = 0; k <= greatestTermOf(field); k++) {
                x.due(k, "topTerm", field, k);
            }
            x.due(-6, "topTerm", field, greatestTermOf(field) + 1);
        }
    }

    private static void greaterFacetFirst() {
        Desk x = Desk.of(
            Desk.row(9, 9, 9, 0b10000000, 0, 0),
            Desk.row(9, 9, 9, 0b10000000, 0, 0),
            Desk.row(9, 9, 9, 0b10010000, 0, 0),
            Desk.row(4, 4, 4, 0b10010000, 0, 0),
            Desk.row(4, 4, 4, 0b10010001, 0, 0),
            Desk.row(0, 0, 0, 0b00000000, 0, 0));
        for (int field : GROUP_FIELDS) {
            x.due(greatestTermOf(field), "topTerm", field, 0);
            x.due(4, "topTerm", field, 1);
            x.due(0, "topTerm", field, 2);
        }
        Desk full = Desk.full();
        full.due(4, "topTerm", 1, 4);
        full.due(-6, "topTerm", 1, 5);
    }

    private static void lesserTermFirst() {
        Desk x = Desk.of(
            Desk.row(9, 9, 9, 0b10000000, 0, 0),
            Desk.row(8, 8, 8, 0b01000000, 0, 0),
            Desk.row(0, 0, 0, 0b00000001, 0, 0),
            Desk.row(1, 1, 1, 0b00000010, 0, 0));
        for (int field : GROUP_FIELDS) {
            x.due(0, "topTerm", field, 0);
            x.due(1, "topTerm", field, 1);
            x.due(greatestTermOf(field) - 1, "topTerm", field, 2);
            x.due(greatestTermOf(field), "topTerm", field, 3);
        }
        Desk full = Desk.full();
        full.due(0, "topTerm", 0, 0);
        full.due(7, "topTerm", 0, 7);
        full.due(8, "topTerm", 0, 8);
        full.due(9, "topTerm", 0, 9);
        full.due(2, "topTerm", 2, 0);
        full.due(0, "topTerm", 2, 8);
        full.due(1, "topTerm", 2, 9);
    }

    private static void noTopTerm() {
        for (int field : GROUP_FIELDS) {
            for (int k : new int[] {-1, 0, 1, MIN, MAX}) {
                Desk.empty().due(-6, "topTerm", field, k);
                Desk.full().shut().due(-6, "topTerm", field, k);
            }
            for (int k : new int[] {-1, greatestTermOf(field) + 1, 48, MIN, MAX}) {
                Desk.full().due(-6, "topTerm", field, k);
                Desk.alike(48, 0, 0, 0, 255, 0, 0).due(-6, "topTerm", field, k);
            }
        }
    }

    private static void between() {
        test("Promise 14", "How many documents that match beside a number field", () -> {
            for (int field : NUMBER_FIELDS) {
                Desk x = Desk.fence();
                x.due(2, "between", field, MIN, MAX);
                x.due(1, "between", field, 0, 10);
                x.due(1, "between", field, 11, 11);
                Desk.empty().due(0, "between", field, MIN, MAX);
                Desk.empty().due(0, "between", field, 0, 0);
            }
            Desk.full().shut().due(48, "between", 4, MIN, MAX);
            Desk.full().shut().due(0, "between", 5, MIN, MAX);
        });
        test("Promise 14", "have a number in it from least to greatest", () -> {
            for (int field : NUMBER_FIELDS) {
                betweenEnds(field);
            }
        });
        test("Promise 14", "have a number in it from least to greatest (least is above greatest)", () -> {
            for (int field : NUMBER_FIELDS) {
                Desk x = Desk.alike(48, 0, 0, 0, 0, 0, 0);
                x.due(0, "between", field, 1, 0);
                x.due(0, "between", field, 0, -1);
                x.due(0, "between", field, 1, -1);
                x.due(0, "between", field, MAX, MIN);
            }
        });
        test("Promise 14", "Field (4 or 5): -2.", () -> {
            for (int bad : NOT_NUMBER_FIELDS) {
                Desk.fence().due(-2, "between", bad, 0, 9);
                Desk.empty().due(-2, "between", bad, 1, 0);
            }
        });
    }

    private static void betweenEnds(int field) {
        Desk x = Desk.full();
        x.due(48, "between", field, MIN, MAX);
        x.due(48, "between", field, -999, 999);
        x.due(47, "between", field, -998, 999);
        x.due(47, "between", field, -999, 998);
        x.due(46, "between", field, -998, 998);
        x.due(1, "between", field, MIN, -999);
        x.due(1, "between", field, 999, MAX);
        x.due(1, "between", field, 999, 999);
        x.due(0, "between", field, MIN, -1000);
        x.due(0, "between", field, 1000, MAX);
        x.due(0, "between", field, MIN, MIN);
        x.due(0, "between", field, MAX, MAX);
    }

    private static void ranked() {
        test("Promise 15", "The k-th (0 for the first) of the numbers, in rising order", () -> {
            Desk x = Desk.full();
            for (int k = 0; k < 48; k++) {
                x.due(Desk.fullNumber(k), "ranked", 4, k);
                x.due(-Desk.fullNumber(47 - k), "ranked", 5, k);
            }
        });
        test("Promise 15", "that the matching documents have in a number field", () -> {
            for (int field : NUMBER_FIELDS) {
                Desk x = Desk.fence();
                x.due(0, "ranked", field, 0);
                x.due(-2001, "ranked", field, 1);
                x.ask("release", field);
                x.due(11, "ranked", field, 1);
                x.due(-2001, "ranked", field, 2);
            }
        });
        test("Promise 15", "(equal ones counted each)", () -> {
            Desk x = Desk.of(
                Desk.row(0, 0, 0, 0, 7, 1), Desk.row(0, 0, 0, 0, -7, 1),
                Desk.row(0, 0, 0, 0, 7, 1), Desk.row(0, 0, 0, 0, -7, 0));
            int[] fourth = {-7, -7, 7, 7, -2001};
            int[] fifth = {0, 1, 1, 1, -2001};
            for (int k = 0; k < 5; k++) {
                x.due(fourth[k], "ranked", 4, k);
                x.due(fifth[k], "ranked", 5, k);
            }
            Desk.alike(48, 0, 0, 0, 0, -999, 999).due(-999, "ranked", 4, 47);
            Desk.alike(48, 0, 0, 0, 0, -999, 999).due(999, "ranked", 5, 47);
        });
        test("Promise 15", "Field (4 or 5): -2000", () -> {
            for (int bad : NOT_NUMBER_FIELDS) {
                Desk.fence().due(-2000, "ranked", bad, 0);
                Desk.full().due(-2000, "ranked", bad, 47);
            }
        });
        test("Promise 15", "there is none: -2001", () -> {
            for (int field : NUMBER_FIELDS) {
                for (int k : NO_PLACES) {
                    Desk.full().due(-2001, "ranked", field, k);
                }
                Desk.fence().due(-2001, "ranked", field, 1);
                Desk.empty().due(-2001, "ranked", field, 0);
                Desk.full().shut().due(-2001, "ranked", field, 0);
            }
        });
        test("Promise 15", "Field (4 or 5): -2000; there is none: -2001 (both)", () -> {
            for (int bad : NOT_NUMBER_FIELDS) {
                Desk.empty().due(-2000, "ranked", bad, 0);
                for (int k : NO_PLACES) {
                    Desk.full().due(-2000, "ranked", bad, k);
                }
            }
        });
    }

    private static void sorted() {
        test("Promise 16", "The k-th (0 for the first) of the matching documents", () -> {
            for (int field : NUMBER_FIELDS) {
                for (int way = 0; way <= 1; way++) {
                    Desk x = Desk.fence();
                    x.due(0, "sorted", field, way, 0);
                    x.due(-6, "sorted", field, way, 1);
                    x.ask("release", field);
                    x.due(way == 0 ? field + 1 : 0, "sorted", field, way, 1);
                    x.due(-6, "sorted", field, way, 2);
                }
            }
        });
        test("Promise 16", "way 0: rising", () -> {
            Desk x = Desk.full();
            for (int k = 0; k < 48; k++) {
                x.due(k, "sorted", 4, 0, k);
                x.due(47 - k, "sorted", 5, 0, k);
            }
        });
        test("Promise 16", "1: falling", () -> {
            Desk x = Desk.full();
            for (int k = 0; k < 48; k++) {
                x.due(47 - k, "sorted", 4, 1, k);
                x.due(k, "sorted", 5, 1, k);
            }
        });
        test("Promise 16", "equal ones by their own numbers, rising", QuestionTests::equalOnes);
        test("Promise 16", "Field (4 or 5): -2", () -> {
            for (int bad : NOT_NUMBER_FIELDS) {
                Desk.full().due(-2, "sorted", bad, 0, 0);
                Desk.full().due(-2, "sorted", bad, 1, 47);
            }
        });
        test("Promise 16", "way is not 0 or 1: -5", () -> {
            for (int field : NUMBER_FIELDS) {
                for (int bad : new int[] {-1, 2, MIN, MAX}) {
                    Desk.full().due(-5, "sorted", field, bad, 0);
                    Desk.fence().due(-5, "sorted", field, bad, 0);
                }
            }
        });
        test("Promise 16", "there is none: -6", () -> {
            for (int field : NUMBER_FIELDS) {
                for (int way = 0; way <= 1; way++) {
                    for (int k : NO_PLACES) {
                        Desk.full().due(-6, "sorted", field, way, k);
                    }
                    Desk.empty().due(-6, "sorted", field, way, 0);
                    Desk.full().shut().due(-6, "sorted", field, way, 0);
                }
            }
        });
        test("Promise 16", "Field (4 or 5): -2; way is not 0 or 1: -5; there is none: -6 (more than one of them)",
            QuestionTests::sortedOrder);
    }

    private static void equalOnes() {
        Desk x = Desk.of(
            Desk.row(0, 0, 0, 0, 5, 0), Desk.row(0, 0, 0, 0, -5, 0),
            Desk.row(0, 0, 0, 0, 5, 0), Desk.row(0, 0, 0, 0, -5, 0));
        int[] rising = {1, 3, 0, 2};
        int[] falling = {0, 2, 1, 3};
        for (int k = 0; k < 4; k++) {
            x.due(rising[k], "sorted", 4, 0, k);
            x.due(falling[k], "sorted", 4, 1, k);
            x.due(k, "sorted", 5, 0, k);
            x.due(k, "sorted", 5, 1, k);
        }
        Desk all = Desk.alike(48, 0, 0, 0, 0, 999, -999);
        for (int k = 0; k < 48; k++) {
            all.due(k, "sorted", 4, 1, k);
            all.due(k, "sorted", 5, 0, k);
        }
    }

    private static void sortedOrder() {
        for (Desk x : new Desk[] {Desk.empty(), Desk.fence(), Desk.full()}) {
            for (int k : NO_PLACES) {
                for (int noField : NOT_NUMBER_FIELDS) {
                    x.due(-2, "sorted", noField, 0, k);
                    x.due(-2, "sorted", noField, 2, k);
                    x.due(-2, "sorted", noField, -1, 0);
                }
                x.due(-5, "sorted", 4, 2, k);
                x.due(-5, "sorted", 5, -1, k);
            }
        }
    }

    private static void sum() {
        test("Promise 17", "The sum, over all matching documents", QuestionTests::sumOfMatching);
        test("Promise 17", "with a term in a term field (or with a tag in the set field)", QuestionTests::sumOfGroup);
        test("Promise 17", "of their numbers in a number field (the greatest sums)", () -> {
            Desk x = Desk.alike(48, 9, 9, 9, 255, 999, -999);
            for (int group : GROUP_FIELDS) {
                x.due(47952, "sum", group, greatestTermOf(group), 4);
                x.due(-47952, "sum", group, greatestTermOf(group), 5);
            }
        });
        test("Promise 17", "group is not 0 to 3", () -> {
            for (int bad : NOT_GROUP_FIELDS) {
                Desk.full().due(-1000000, "sum", bad, 0, 4);
                Desk.empty().due(-1000000, "sum", bad, 0, 5);
            }
        });
        test("Promise 17", "or field not 4 or 5: -1000000", () -> {
            for (int bad : NOT_NUMBER_FIELDS) {
                Desk.full().due(-1000000, "sum", 0, 0, bad);
                Desk.empty().due(-1000000, "sum", 3, 7, bad);
            }
        });
        test("Promise 17", "term is not 0 to 9", () -> {
            for (int group : TERM_FIELDS) {
                sumOfNoTerm(group);
            }
        });
        test("Promise 17", "or tag not 0 to 7: -1000001", () -> sumOfNoTerm(3));
        String refusals = "group is not 0 to 3, or field not 4 or 5: -1000000; "
            + "term is not 0 to 9, or tag not 0 to 7: -1000001";
        test("Promise 17", refusals + " (both)", () -> {
            for (int noTerm : NOT_TERMS) {
                for (int noGroup : NOT_GROUP_FIELDS) {
                    Desk.fence().due(-1000000, "sum", noGroup, noTerm, 4);
                }
                for (int noField : NOT_NUMBER_FIELDS) {
                    Desk.fence().due(-1000000, "sum", 0, noTerm, noField);
                    Desk.fence().due(-1000000, "sum", 3, noTerm, noField);
                }
            }
        });
    }

    private static void sumOfMatching() {
        for (int group : GROUP_FIELDS) {
            for (int field : NUMBER_FIELDS) {
                Desk x = Desk.fence();
                x.ask("set", 0, field, 7);
                x.due(7, "sum", group, 0, field);
                x.due(0, "sum", group, greatestTermOf(group), field);
                x.ask("release", field);
                x.due(18, "sum", group, 0, field);
                x.ask("remove", 0);
                x.due(11, "sum", group, 0, field);
                Desk.empty().due(0, "sum", group, 0, field);
                Desk.alike(48, 0, 0, 0, 1, 999, 999).shut().due(0, "sum", group, 0, field);
            }
        }
    }

    private static void sumOfGroup() {
        Desk x = Desk.of(
            Desk.row(0, 4, 9, 0b10000001, 1, -1),
            Desk.row(4, 9, 0, 0b10000000, 10, -10),
            Desk.row(9, 0, 4, 0b00000000, 100, -100),
            Desk.row(9, 9, 9, 0b00000011, 200, -200));
        int[][] terms = {{1, 10, 300}, {100, 1, 210}, {10, 100, 201}};
        for (int group : TERM_FIELDS) {
            x.due(terms[group][0], "sum", group, 0, 4);
            x.due(terms[group][1], "sum", group, 4, 4);
            x.due(-terms[group][2], "sum", group, 9, 5);
            x.due(0, "sum", group, 5, 4);
        }
        x.due(201, "sum", 3, 0, 4);
        x.due(-200, "sum", 3, 1, 5);
        x.due(11, "sum", 3, 7, 4);
        x.due(0, "sum", 3, 6, 4);
    }

    private static void sumOfNoTerm(int group) {
        for (int field : NUMBER_FIELDS) {
            for (int bad : notTermsOf(group)) {
                Desk.full().due(-1000001, "sum", group, bad, field);
                Desk.empty().due(-1000001, "sum", group, bad, field);
            }
            Desk.empty().due(0, "sum", group, 0, field);
            Desk.empty().due(0, "sum", group, greatestTermOf(group), field);
        }
    }

    private static int packed(int group, int term, int which) {
        return 100 * group + 10 * term + which;
    }

    private static void extreme() {
        test("Promise 18", "The least (which 0)", () -> extremeOf(0, -999));
        test("Promise 18", "or greatest (which 1) number", () -> extremeOf(1, 999));
        test("Promise 18", "of the matching documents with a term (or tag) in a group field",
            QuestionTests::extremeOfMatching);
        test("Promise 18", "group is not 0 to 3", () -> {
            for (int what : new int[] {400, 401, 491, 500, 1000, MAX - 7, MAX}) {
                Desk.full().due(-2000, "extreme", what, 4);
                Desk.empty().due(-2000, "extreme", what, 5);
            }
        });
        test("Promise 18", "or field not 4 or 5", () -> {
            for (int bad : NOT_NUMBER_FIELDS) {
                Desk.full().due(-2000, "extreme", 0, bad);
                Desk.empty().due(-2000, "extreme", 371, bad);
            }
        });
        test("Promise 18", "or which not 0 or 1: -2000", () -> {
            for (int group : GROUP_FIELDS) {
                for (int which = 2; which <= 9; which++) {
                    Desk.full().due(-2000, "extreme", packed(group, 0, which), 4);
                    Desk.empty().due(-2000, "extreme", packed(group, 7, which), 5);
                }
            }
        });
        test("Promise 18", "term is not 0 to 9, or tag not 0 to 7: -2001", () -> {
            for (int field : NUMBER_FIELDS) {
                for (int what : new int[] {380, 381, 390, 391}) {
                    Desk.full().due(-2001, "extreme", what, field);
                    Desk.empty().due(-2001, "extreme", what, field);
                }
                for (int what : new int[] {80, 91, 180, 191, 280, 291, 370, 371}) {
                    Desk.empty().due(-2002, "extreme", what, field);
                }
            }
        });
        test("Promise 18", "there are no such documents: -2002", QuestionTests::noExtreme);
        test("Promise 18", "what below 0: -2000", () -> {
            for (int what : new int[] {-1, -9, -10, -11, -90, -99, -100, -101, -300, -391, -400, MIN, MIN + 8}) {
                Desk.full().due(-2000, "extreme", what, 4);
                Desk.empty().due(-2000, "extreme", what, 5);
            }
        });
        test("Promise 18", "what = 100 * group + 10 * term + which", QuestionTests::packing);
        String refusals = "-2000; term is not 0 to 9, or tag not 0 to 7: -2001; there are no such documents: -2002";
        test("Promise 18", refusals + " (more than one of them)", QuestionTests::extremeOrder);
    }

    private static void extremeOf(int which, int end) {
        Desk x = Desk.alike(48, 0, 0, 0, 1, 3, 3);
        for (int group : GROUP_FIELDS) {
            for (int field : NUMBER_FIELDS) {
                x.due(3, "extreme", packed(group, 0, which), field);
                for (int d : new int[] {0, 20, 47}) {
                    x.ask("set", d, field, which == 0 ? 2 : 4);
                    x.due(which == 0 ? 2 : 4, "extreme", packed(group, 0, which), field);
                    x.ask("set", d, field, end);
                    x.due(end, "extreme", packed(group, 0, which), field);
                    x.ask("set", d, field, -end);
                    x.due(3, "extreme", packed(group, 0, which), field);
                    x.ask("set", d, field, 3);
                }
            }
        }
        // A lone number at the far end must not lose against where the search begins.
        Desk.alike(1, 0, 0, 0, 1, -999, 999).due(-999, "extreme", which, 4);
        Desk.alike(1, 0, 0, 0, 1, -999, 999).due(999, "extreme", which, 5);
    }

    private static void extremeOfMatching() {
        for (int group : GROUP_FIELDS) {
            for (int field : NUMBER_FIELDS) {
                Desk x = Desk.fence();
                x.due(0, "extreme", packed(group, 0, 0), field);
                x.due(0, "extreme", packed(group, 0, 1), field);
                x.due(-2002, "extreme", packed(group, greatestTermOf(group), 0), field);
                x.ask("release", field);
                x.due(0, "extreme", packed(group, 0, 0), field);
                x.due(11, "extreme", packed(group, 0, 1), field);
                x.ask("remove", 0);
                x.due(11, "extreme", packed(group, 0, 0), field);
            }
        }
    }

    private static void noExtreme() {
        for (int group : GROUP_FIELDS) {
            for (int which = 0; which <= 1; which++) {
                Desk.empty().due(-2002, "extreme", packed(group, 0, which), 4);
                Desk.full().shut().due(-2002, "extreme", packed(group, 0, which), 5);
                Desk.alike(48, 0, 0, 0, 1, 0, 0).due(-2002, "extreme", packed(group, 1, which), 4);
                Desk.alike(48, 0, 0, 0, 0, 0, 0).due(-2002, "extreme", packed(3, 0, which), 4);
            }
        }
    }

    private static void packing() {
        for (int group : GROUP_FIELDS) {
            for (int term = 0; term <= greatestTermOf(group); term++) {
                Desk x = Desk.of(Desk.row(0, 0, 0, 0, 7, 5), Desk.row(0, 0, 0, 0, 9, 5), Desk.row(0, 0, 0, 0, -99, 99));
                for (int d = 0; d < 2; d++) {
                    x.ask("set", d, group, group == 3 ? 1 << term : term);
                }
                x.ask("set", 2, group, group == 3 ? 255 - (1 << term) : (term + 1) % 10);
                x.due(7, "extreme", packed(group, term, 0), 4);
                x.due(9, "extreme", packed(group, term, 1), 4);
                x.due(5, "extreme", packed(group, term, 1), 5);
            }
        }
    }

    private static void extremeOrder() {
        for (Desk x : new Desk[] {Desk.empty(), Desk.full()}) {
            for (int term = 8; term <= 9; term++) {
                for (int noField : NOT_NUMBER_FIELDS) {
                    x.due(-2000, "extreme", packed(3, term, 0), noField);
                    x.due(-2000, "extreme", packed(3, term, 1), noField);
                }
                for (int which = 2; which <= 9; which++) {
                    x.due(-2000, "extreme", packed(3, term, which), 4);
                }
                x.due(-2001, "extreme", packed(3, term, 1), 4);
            }
        }
    }

    private static void different() {
        test("Promise 19", "How many different terms (or numbers, or sets)", QuestionTests::differentValues);
        test("Promise 19", "the matching documents have in a field", () -> {
            for (int field : FIELDS) {
                Desk x = Desk.fence();
                x.due(1, "different", field);
                x.ask("release", field);
                x.due(2, "different", field);
                x.ask("remove", 0);
                x.due(1, "different", field);
                lastOfThreeMatches().due(1, "different", field);
            }
        });
        test("Promise 19", "the matching documents have in a field (none there, or none that match)", () -> {
            for (int field : FIELDS) {
                Desk.empty().due(0, "different", field);
                Desk.full().shut().due(0, "different", field);
            }
        });
        test("Promise 19", "Field: -2.", () -> {
            for (int bad : NOT_FIELDS) {
                Desk.empty().due(-2, "different", bad);
                Desk.full().due(-2, "different", bad);
            }
        });
    }

    /** A value must not pass for seen because a document has it that does not match. */
    private static Desk lastOfThreeMatches() {
        Desk x = Desk.alike(3, 9, 9, 9, 255, 999, 999);
        x.ask("set", 2, 5, 0);
        x.ask("filterRange", 5, 0, 0);
        x.ask("set", 1, 5, 0);
        x.ask("remove", 1);
        x.due(1, "matching");
        return x;
    }

    private static void differentValues() {
        int[] ofFull = {10, 5, 10, 48, 48, 48};
        for (int field : FIELDS) {
            Desk.full().due(ofFull[field], "different", field);
            Desk.alike(1, 9, 9, 9, 255, -999, 999).due(1, "different", field);
            Desk.alike(48, 9, 9, 9, 255, -999, 999).due(1, "different", field);
        }
        Desk ends = Desk.of(Desk.row(0, 0, 0, 0, -999, 999), Desk.row(9, 9, 9, 255, 999, -999),
            Desk.row(0, 0, 0, 0, -999, 999));
        for (int field : FIELDS) {
            ends.due(2, "different", field);
        }
        Desk sets = Desk.of(Desk.row(0, 0, 0, 3, 0, 0), Desk.row(0, 0, 0, 1, 0, 0), Desk.row(0, 0, 0, 2, 0, 0));
        sets.due(3, "different", 3);
    }

    private static void pairs() {
        test("Promise 20", "How many pairs of a term of one term field and a term of another one", () -> {
            Desk.full().due(48, "pairs", 0, 1);
            Desk.full().due(48, "pairs", 1, 0);
            Desk.full().due(10, "pairs", 0, 2);
            Desk.full().due(48, "pairs", 2, 1);
            Desk x = Desk.of(Desk.row(0, 9, 0, 0, 0, 0), Desk.row(9, 0, 0, 0, 0, 0), Desk.row(0, 9, 9, 0, 0, 0));
            x.due(2, "pairs", 0, 1);
            x.due(3, "pairs", 1, 2);
            x.due(3, "pairs", 2, 0);
        });
        test("Promise 20", "(or the same one)", () -> {
            Desk.full().due(10, "pairs", 0, 0);
            Desk.full().due(5, "pairs", 1, 1);
            Desk.full().due(10, "pairs", 2, 2);
        });
        test("Promise 20", "some matching document has together", () -> {
            for (int field : TERM_FIELDS) {
                for (int other : TERM_FIELDS) {
                    pairsOfMatching(field, other);
                }
            }
        });
        test("Promise 20", "a field is not 0 to 2: -2", () -> {
            for (int bad : NOT_TERM_FIELDS) {
                for (int good : TERM_FIELDS) {
                    Desk.full().due(-2, "pairs", bad, good);
                    Desk.full().due(-2, "pairs", good, bad);
                    Desk.empty().due(-2, "pairs", good, bad);
                }
                for (int other : NOT_TERM_FIELDS) {
                    Desk.full().due(-2, "pairs", bad, other);
                }
            }
        });
    }

    private static void pairsOfMatching(int field, int other) {
        Desk.empty().due(0, "pairs", field, other);
        Desk.full().shut().due(0, "pairs", field, other);
        Desk.alike(48, 9, 9, 9, 0, 0, 0).due(1, "pairs", field, other);
        Desk x = Desk.fence();
        x.due(1, "pairs", field, other);
        x.ask("release", field);
        x.due(2, "pairs", field, other);
        x.ask("remove", field + 1);
        x.due(1, "pairs", field, other);
        lastOfThreeMatches().due(1, "pairs", field, other);
        // The terms 0 and 9 are there in both fields, but not all four pairs of them in one document.
        Desk apart = Desk.of(Desk.row(0, 0, 0, 0, 0, 0), Desk.row(9, 9, 9, 0, 0, 0));
        apart.due(2, "pairs", field, other);
    }

    private static void box() {
        test("Promise 21", "box b being all n with b * width <= n < (b + 1) * width", QuestionTests::boxEnds);
        test("Promise 21", "box b being all n with b * width <= n < (b + 1) * width (each number is in one box)",
            QuestionTests::oneBoxEach);
        test("Promise 21", "worked out without wrapping", QuestionTests::withoutWrapping);
        test("Promise 21", "b is any int", () -> {
            for (int width : new int[] {1, 2, 3, 512, 998, 999}) {
                for (int b : new int[] {MIN, MIN + 1, -1001, 1001, MAX - 1, MAX}) {
                    Desk.full().due(0, "box", 4, width, b);
                    Desk.alike(48, 0, 0, 0, 0, 0, -1).due(0, "box", 4, width, b);
                    Desk.alike(48, 0, 0, 0, 0, 0, -1).due(0, "box", 5, width, b);
                }
            }
        });
        test("Promise 21", "how many matching documents are in box b", QuestionTests::boxOfMatching);
        test("Promise 21", "Field (4 or 5): -2", () -> {
            for (int bad : NOT_NUMBER_FIELDS) {
                Desk.full().due(-2, "box", bad, 1, 0);
                Desk.empty().due(-2, "box", bad, 999, MAX);
            }
        });
        test("Promise 21", "width is not 1 to 999: -5", () -> {
            for (int field : NUMBER_FIELDS) {
                for (int bad : new int[] {0, -1, 1000, MIN, MAX}) {
                    Desk.full().due(-5, "box", field, bad, 0);
                    Desk.empty().due(-5, "box", field, bad, MIN);
                }
                Desk.alike(48, 0, 0, 0, 0, 0, 0).due(48, "box", field, 1, 0);
                Desk.alike(48, 0, 0, 0, 0, 0, 0).due(48, "box", field, 999, 0);
            }
        });
        test("Promise 21", "Field (4 or 5): -2; width is not 1 to 999: -5 (both)", () -> {
            for (int noField : NOT_NUMBER_FIELDS) {
                for (int noWidth : new int[] {0, -1, 1000, MIN, MAX}) {
                    Desk.full().due(-2, "box", noField, noWidth, 0);
                }
            }
        });
    }

    private static Desk withNumber(int field, int number) {
        return field == 4 ? Desk.alike(1, 0, 0, 0, 0, number, 0) : Desk.alike(1, 0, 0, 0, 0, 0, number);
    }

    private static void boxEnds() {
        for (int field : NUMBER_FIELDS) {
            for (int width : new int[] {1, 2, 10, 333, 499, 998, 999}) {
                for (int b = -2; b <= 2; b++) {
                    numberInBox(field, width, b, b * width - 1, 0);
                    numberInBox(field, width, b, b * width, 1);
                    numberInBox(field, width, b, (b + 1) * width - 1, 1);
                    numberInBox(field, width, b, (b + 1) * width, 0);
                }
            }
            numberInBox(field, 1, 999, 999, 1);
            numberInBox(field, 1, -999, -999, 1);
            numberInBox(field, 1, 998, 999, 0);
            numberInBox(field, 1, -998, -999, 0);
            numberInBox(field, 998, -2, -999, 1);
            numberInBox(field, 998, 1, 999, 1);
        }
    }

    private static void numberInBox(int field, int width, int b, int number, int want) {
        if (number >= -999 && number <= 999) {
            withNumber(field, number).due(want, "box", field, width, b);
        }
    }

    private static void oneBoxEach() {
        for (int width : new int[] {1, 7, 250, 999}) {
            for (int number = -999; number <= 999; number++) {
                Desk x = withNumber(4, number);
                int home = Math.floorDiv(number, width);
                for (int b = home - 2; b <= home + 2; b++) {
                    x.due(b == home ? 1 : 0, "box", 4, width, b);
                }
            }
        }
    }

    /** In ints, b * width or (b + 1) * width would wrap round to close by 0 for these. */
    private static void withoutWrapping() {
        int[] numbers = {-999, -512, -3, -2, -1, 0, 1, 2, 511, 999};
        int[][] rows = new int[numbers.length][];
        for (int d = 0; d < numbers.length; d++) {
            rows[d] = Desk.row(0, 0, 0, 0, numbers[d], numbers[d]);
        }
        for (int width = 2; width <= 999; width++) {
            Desk x = Desk.of(rows);
            for (long turn = 1; turn < width; turn += 1 + width / 16) {
                for (int step = -2; step <= 2; step++) {
                    long near = Math.floorDiv(turn << 32, width) + step;
                    farBox(x, width, near);
                    farBox(x, width, -near);
                }
            }
            farBox(x, width, MAX);
            farBox(x, width, MIN);
        }
    }

    private static void farBox(Desk x, int width, long b) {
        if (b >= MIN && b <= MAX) {
            x.due(0, "box", 4, width, (int) b);
        }
    }

    private static void boxOfMatching() {
        for (int field : NUMBER_FIELDS) {
            Desk x = Desk.fence();
            x.due(1, "box", field, 10, 0);
            x.due(0, "box", field, 10, 1);
            x.ask("release", field);
            x.due(1, "box", field, 10, 1);
            x.ask("remove", field + 1);
            x.due(0, "box", field, 10, 1);
            for (int width : new int[] {1, 999}) {
                Desk.empty().due(0, "box", field, width, 0);
                Desk.alike(48, 0, 0, 0, 0, 0, 0).shut().due(0, "box", field, width, 0);
                Desk.alike(48, 0, 0, 0, 0, 0, 0).due(48, "box", field, width, 0);
            }
        }
        Desk.full().due(24, "box", 4, 999, -1);
        Desk.full().due(23, "box", 4, 999, 0);
        Desk.full().due(1, "box", 4, 999, 1);
    }

    public static void main(String[] args) {
        documents();
        valueOf();
        matching();
        facet();
        topTerm();
        between();
        ranked();
        sorted();
        sum();
        extreme();
        different();
        pairs();
        box();
        end();
    }
}
