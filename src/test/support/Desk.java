import java.util.ArrayList;
import java.util.Arrays;
import java.util.List;
import java.util.stream.Collectors;

/** A FacetDesk whose calls are told by their names, so that a wrong answer can be printed with its call. */
final class Desk {
    /** What later calls answer is free, so a test that makes more of them would test nothing. */
    static final int CALLS = 512;

    private final FacetDesk desk = new FacetDesk();
    private int calls = 0;

    static Desk empty() {
        return new Desk();
    }

    /** Document d has the terms, tags and numbers of row d. */
    static Desk of(int[]... rows) {
        Desk x = new Desk();
        for (int d = 0; d < rows.length; d++) {
            x.ask("make", rows[d][0], rows[d][1], rows[d][2]);
            for (int field = 3; field < 6; field++) {
                if (rows[d][field] != 0) {
                    x.ask("set", d, field, rows[d][field]);
                }
            }
        }
        return x;
    }

    static int[] row(int... values) {
        return values;
    }

    /** As many documents as given, all alike. */
    static Desk alike(int documents, int... row) {
        int[][] rows = new int[documents][];
        Arrays.fill(rows, row);
        return of(rows);
    }

    /** Filters on all fields: document 0 passes them all, document f + 1 all but that of field f, document 7 none. */
    static Desk fence() {
        Desk x = of(
            row(0, 0, 0, 0b00000001, 0, 0),
            row(9, 0, 0, 0b00000001, 0, 0),
            row(0, 9, 0, 0b00000001, 0, 0),
            row(0, 0, 9, 0b00000001, 0, 0),
            row(0, 0, 0, 0b10000000, 0, 0),
            row(0, 0, 0, 0b00000001, 11, 0),
            row(0, 0, 0, 0b00000001, 0, 11),
            row(9, 9, 9, 0b10000000, 11, 11));
        x.ask("filterTerms", 0, 0b0000011111);
        x.ask("filterTerms", 1, 0b0000011111);
        x.ask("filterTerms", 2, 0b0000011111);
        x.ask("filterTags", 0b00000001, 0);
        x.ask("filterRange", 4, -10, 10);
        x.ask("filterRange", 5, -10, 10);
        return x;
    }

    /** Has the documents 0 to 7 but not 3. */
    static Desk gapped() {
        Desk x = fence();
        x.ask("remove", 3);
        return x;
    }

    /** Filters on all fields, and documents on both sides of each end of each filter; they pass the other filters. */
    static Desk edges() {
        Desk x = of(edgeRows());
        x.ask("filterTerms", 0, 0b0000011111);
        x.ask("filterTerms", 1, 0b0000011111);
        x.ask("filterTerms", 2, 0b0000011111);
        x.ask("filterTags", 0b00000011, 0);
        x.ask("filterRange", 4, -10, 10);
        x.ask("filterRange", 5, -10, 10);
        return x;
    }

    static int[][] edgeRows() {
        int[][] edges = {
            {0, 1, 2, 3, 4, 5, 6, 7, 8, 9}, {1, 2, 3, 4, 5, 6, 7, 8, 9}, {1, 2, 3, 4, 5, 6, 7, 8, 9},
            {0, 2, 3, 4, 129}, {-11, -10, 10, 11}, {-11, -10, 10, 11}};
        List<int[]> rows = new ArrayList<>();
        for (int field = 0; field < 6; field++) {
            for (int value : edges[field]) {
                int[] row = {0, 0, 0, 1, 0, 0};
                row[field] = value;
                rows.add(row);
            }
        }
        return rows.toArray(new int[0][]);
    }

    /** Whether a document with these values passes the filter that the field has on the desk of edges. */
    static boolean passesEdge(int[] row, int field) {
        int value = row[field];
        return field < 3 ? value <= 4 : field == 3 ? (value & 0b00000011) != 0 : value >= -10 && value <= 10;
    }

    /** 48 documents without filters, each with numbers, a set and a pair of terms in fields 0 and 1 of its own. */
    static Desk full() {
        Desk x = new Desk();
        for (int d = 0; d < 48; d++) {
            x.ask("make", d % 10, d / 10, 9 - d % 10);
            x.ask("set", d, 3, fullTags(d));
            x.ask("set", d, 4, fullNumber(d));
            x.ask("set", d, 5, -fullNumber(d));
        }
        return x;
    }

    /** Filters on all fields of a full desk; some of its documents match, some don't. */
    static Desk fullFiltered() {
        Desk x = full();
        x.ask("filterTerms", 0, 0b0111111110);
        x.ask("filterTerms", 1, 0b0000001111);
        x.ask("filterTerms", 2, 0b1101111111);
        x.ask("filterTags", 0b00110000, 2);
        x.ask("filterRange", 4, -900, 500);
        x.ask("filterRange", 5, -300, 800);
        return x;
    }

    static int fullTags(int document) {
        return document * 255 / 47;
    }

    /** Rises with the document from -999 to 999. */
    static int fullNumber(int document) {
        return document * 1998 / 47 - 999;
    }

    /** Lets no document match, but all of them match beside field 4. */
    Desk shut() {
        ask("filterRange", 4, 1, 0);
        return this;
    }

    int calls() {
        return calls;
    }

    static String text(String name, int... given) {
        return name + Arrays.stream(given).mapToObj(String::valueOf).collect(Collectors.joining(", ", "(", ")"));
    }

    void due(int want, String name, int... given) {
        int got = ask(name, given);
        if (got != want) {
            Sentences.fail(text(name, given) + " answered " + got + ", due is " + want);
        }
    }

    int ask(String name, int... g) {
        calls++;
        if (calls > CALLS) {
            throw new IllegalStateException("the test uses one object for more than " + CALLS + " calls");
        }
        return switch (name + "/" + g.length) {
            case "make/3" -> desk.make(g[0], g[1], g[2]);
            case "remove/1" -> desk.remove(g[0]);
            case "set/3" -> desk.set(g[0], g[1], g[2]);
            case "filterTerms/2" -> desk.filterTerms(g[0], g[1]);
            case "filterTags/2" -> desk.filterTags(g[0], g[1]);
            case "filterRange/3" -> desk.filterRange(g[0], g[1], g[2]);
            case "release/1" -> desk.release(g[0]);
            case "documents/0" -> desk.documents();
            case "valueOf/2" -> desk.valueOf(g[0], g[1]);
            case "matching/0" -> desk.matching();
            case "facet/2" -> desk.facet(g[0], g[1]);
            case "topTerm/2" -> desk.topTerm(g[0], g[1]);
            case "between/3" -> desk.between(g[0], g[1], g[2]);
            case "ranked/2" -> desk.ranked(g[0], g[1]);
            case "sorted/3" -> desk.sorted(g[0], g[1], g[2]);
            case "sum/3" -> desk.sum(g[0], g[1], g[2]);
            case "extreme/2" -> desk.extreme(g[0], g[1]);
            case "different/1" -> desk.different(g[0]);
            case "pairs/2" -> desk.pairs(g[0], g[1]);
            case "box/3" -> desk.box(g[0], g[1], g[2]);
            default -> throw new IllegalArgumentException("there is no call " + text(name, g));
        };
    }
}
