/** For each promise of ../shared/DOC.md: ordinary inputs, the edges that it names, and wrong inputs. */
public final class PromiseTests {
    private static final int MIN = Integer.MIN_VALUE;
    private static final int MAX = Integer.MAX_VALUE;

    private static int wrong = 0;
    private static int promise = 0;

    private static void due(String call, int got, int want) {
        if (got != want) {
            wrong++;
            System.out.println("promise " + promise + ": " + call + " answered " + got + ", due is " + want);
        }
    }

    private static FacetDesk full() {
        FacetDesk x = new FacetDesk();
        for (int d = 0; d < 48; d++) {
            x.make(d % 10, d / 10, (d + 5) % 10);
        }
        return x;
    }

    /** Document d has the given terms, tags and numbers of row d. */
    private static FacetDesk desk(int[]... rows) {
        FacetDesk x = new FacetDesk();
        for (int d = 0; d < rows.length; d++) {
            x.make(rows[d][0], rows[d][1], rows[d][2]);
            for (int field = 3; field < 6; field++) {
                x.set(d, field, rows[d][field]);
            }
        }
        return x;
    }

    private static int[] row(int... values) {
        return values;
    }

    private static FacetDesk library() {
        return desk(
            row(0, 1, 2, 0b00000011, 5, -10),
            row(0, 2, 2, 0b00000110, -3, 20),
            row(1, 1, 3, 0b00000100, 5, 20),
            row(4, 1, 2, 0b00000000, 99, -999),
            row(4, 2, 9, 0b10000001, -999, 999),
            row(9, 1, 2, 0b11111111, 999, 0));
    }

    private static void newObject() {
        promise = 1;
        FacetDesk x = new FacetDesk();
        due("documents()", x.documents(), 0);
        due("matching()", x.matching(), 0);
        for (int d = 0; d < 48; d++) {
            due("valueOf(" + d + ", 0)", x.valueOf(d, 0), -1000);
        }
        x.make(0, 9, 5);
        x.set(0, 4, 999);
        x.set(0, 5, -999);
        due("no filter: matching()", x.matching(), 1);
        x.set(0, 3, 255);
        due("no filter: matching()", x.matching(), 1);
        FacetDesk y = new FacetDesk();
        x.filterTerms(0, 2);
        due("a second object: documents()", y.documents(), 0);
        due("a second object: make", y.make(0, 0, 0), 0);
        due("a second object: matching()", y.matching(), 1);
    }

    private static void make() {
        promise = 2;
        FacetDesk x = new FacetDesk();
        due("make(0, 9, 4)", x.make(0, 9, 4), 0);
        due("make(9, 0, 5)", x.make(9, 0, 5), 1);
        int[] first = {0, 9, 4, 0, 0, 0};
        int[] second = {9, 0, 5, 0, 0, 0};
        for (int field = 0; field < 6; field++) {
            due("valueOf(0, " + field + ")", x.valueOf(0, field), first[field]);
            due("valueOf(1, " + field + ")", x.valueOf(1, field), second[field]);
        }
        for (int bad : new int[] {-1, 10, MIN, MAX}) {
            due("make(" + bad + ", 0, 0)", x.make(bad, 0, 0), -3);
            due("make(0, " + bad + ", 0)", x.make(0, bad, 0), -3);
            due("make(0, 0, " + bad + ")", x.make(0, 0, bad), -3);
        }
        due("refused: documents()", x.documents(), 2);

        x = full();
        due("48: make(0, 0, 0)", x.make(0, 0, 0), -4);
        due("48: make(10, 0, 0)", x.make(10, 0, 0), -3);
        due("48: make(0, 0, -1)", x.make(0, 0, -1), -3);
        due("48: documents()", x.documents(), 48);
        due("48: valueOf(47, 1)", x.valueOf(47, 1), 4);
        x.set(20, 3, 255);
        x.set(20, 4, 7);
        x.set(20, 5, -7);
        x.remove(30);
        x.remove(20);
        due("least free", x.make(1, 2, 3), 20);
        for (int field = 0; field < 3; field++) {
            due("made again, valueOf(20, " + field + ")", x.valueOf(20, field), field + 1);
            due("made again, valueOf(20, " + (field + 3) + ")", x.valueOf(20, field + 3), 0);
        }
        due("next free", x.make(1, 2, 3), 30);
        due("full again", x.make(1, 2, 3), -4);
    }

    private static void remove() {
        promise = 3;
        FacetDesk x = new FacetDesk();
        due("remove(0)", x.remove(0), -1);
        x.make(1, 1, 1);
        x.make(2, 2, 2);
        x.make(3, 3, 3);
        for (int bad : new int[] {-1, 3, 47, 48, MIN, MAX}) {
            due("remove(" + bad + ")", x.remove(bad), -1);
        }
        due("remove(1)", x.remove(1), 2);
        due("remove(1) again", x.remove(1), -1);
        due("valueOf(1, 0)", x.valueOf(1, 0), -1000);
        due("valueOf(2, 0)", x.valueOf(2, 0), 3);
        due("matching()", x.matching(), 2);
        due("facet(0, 2)", x.facet(0, 2), 0);
        due("remove(0)", x.remove(0), 1);
        due("remove(2)", x.remove(2), 0);
        FacetDesk y = full();
        due("remove(47)", y.remove(47), 47);
        y.filterTerms(0, 1);
        due("remove(46) counts all that are left", y.remove(46), 46);
    }

    private static void set() {
        promise = 4;
        FacetDesk x = new FacetDesk();
        x.make(1, 2, 3);
        x.make(1, 2, 3);
        int[] least = {0, 0, 0, 0, -999, -999};
        int[] greatest = {9, 9, 9, 255, 999, 999};
        for (int field = 0; field < 6; field++) {
            String name = "set(0, " + field + ", ";
            int middle = x.valueOf(0, field);
            due(name + "what it has)", x.set(0, field, middle), 0);
            due(name + "greatest)", x.set(0, field, greatest[field]), 1);
            due(name + "greatest) again", x.set(0, field, greatest[field]), 0);
            due(name + "above)", x.set(0, field, greatest[field] + 1), -3);
            due(name + "MAX)", x.set(0, field, MAX), -3);
            due(name + "below)", x.set(0, field, least[field] - 1), -3);
            due(name + "MIN)", x.set(0, field, MIN), -3);
            due(name + "..) refused", x.valueOf(0, field), greatest[field]);
            due(name + "least)", x.set(0, field, least[field]), 1);
            due(name + "..)", x.valueOf(0, field), least[field]);
            due("another document", x.valueOf(1, field), middle);
        }
        for (int bad : new int[] {-1, 2, 48, MIN, MAX}) {
            due("set(" + bad + ", 0, 0)", x.set(bad, 0, 0), -1);
            due("set(" + bad + ", 6, 1000)", x.set(bad, 6, 1000), -1);
        }
        for (int bad : new int[] {-1, 6, MIN, MAX}) {
            due("set(0, " + bad + ", 0)", x.set(0, bad, 0), -2);
            due("set(0, " + bad + ", 1000)", x.set(0, bad, 1000), -2);
        }
    }

    private static void filterTerms() {
        promise = 5;
        FacetDesk x = library();
        due("filterTerms(0, 1)", x.filterTerms(0, 1), 2);
        due("filterTerms(0, 16)", x.filterTerms(0, 16), 2);
        due("filterTerms(0, 512)", x.filterTerms(0, 512), 1);
        due("filterTerms(0, 19)", x.filterTerms(0, 19), 5);
        due("filterTerms(1, 4)", x.filterTerms(1, 4), 2);
        due("filterTerms(2, 512)", x.filterTerms(2, 512), 1);
        due("filterTerms(2, 1023)", x.filterTerms(2, 1023), 2);
        due("filterTerms(1, 1023)", x.filterTerms(1, 1023), 5);
        for (int bad : new int[] {-1, 3, 4, 5, 6, MIN, MAX}) {
            due("filterTerms(" + bad + ", 1)", x.filterTerms(bad, 1), -2);
            due("filterTerms(" + bad + ", 0)", x.filterTerms(bad, 0), -2);
        }
        for (int bad : new int[] {0, -1, 1024, MIN, MAX}) {
            due("filterTerms(0, " + bad + ")", x.filterTerms(0, bad), -3);
        }
        due("refused: matching()", x.matching(), 5);
    }

    private static void filterTags() {
        promise = 6;
        FacetDesk x = library();
        due("filterTags(3, 0)", x.filterTags(3, 0), 4);
        due("filterTags(3, 1)", x.filterTags(3, 1), 2);
        due("filterTags(3, 2)", x.filterTags(3, 2), 2);
        due("filterTags(128, 0)", x.filterTags(128, 0), 2);
        due("filterTags(255, 0)", x.filterTags(255, 0), 5);
        due("filterTags(255, 1)", x.filterTags(255, 1), 1);
        due("filterTags(255, 2)", x.filterTags(255, 2), 1);
        due("filterTerms(0, 1)", x.filterTerms(0, 1), 0);
        due("filterTags(1, 2)", x.filterTags(1, 2), 1);
        for (int bad : new int[] {0, -1, 256, MIN, MAX}) {
            due("filterTags(" + bad + ", 0)", x.filterTags(bad, 0), -3);
            due("filterTags(" + bad + ", 3)", x.filterTags(bad, 3), -3);
        }
        for (int bad : new int[] {-1, 3, MIN, MAX}) {
            due("filterTags(1, " + bad + ")", x.filterTags(1, bad), -5);
        }
        due("refused: matching()", x.matching(), 1);
    }

    private static void filterRange() {
        promise = 7;
        FacetDesk x = library();
        due("filterRange(4, -3, 5)", x.filterRange(4, -3, 5), 3);
        due("filterRange(4, -2, 5)", x.filterRange(4, -2, 5), 2);
        due("filterRange(4, -3, 4)", x.filterRange(4, -3, 4), 1);
        due("filterRange(4, 5, 5)", x.filterRange(4, 5, 5), 2);
        due("filterRange(5, 20, 20)", x.filterRange(5, 20, 20), 1);
        due("filterRange(4, 1, 0)", x.filterRange(4, 1, 0), 0);
        due("filterRange(4, MAX, MIN)", x.filterRange(4, MAX, MIN), 0);
        due("filterRange(4, MIN, MAX)", x.filterRange(4, MIN, MAX), 2);
        due("filterRange(5, MIN, 0)", x.filterRange(5, MIN, 0), 3);
        due("filterRange(5, 0, MAX)", x.filterRange(5, 0, MAX), 4);
        for (int bad : new int[] {-1, 0, 1, 2, 3, 6, MIN, MAX}) {
            due("filterRange(" + bad + ", 0, 0)", x.filterRange(bad, 0, 0), -2);
        }
        due("refused: matching()", x.matching(), 4);
        x.set(0, 5, 1);
        due("a changed number: matching()", x.matching(), 5);
    }

    private static void release() {
        promise = 8;
        FacetDesk x = library();
        for (int field = 0; field < 6; field++) {
            due("without a filter: release(" + field + ")", x.release(field), 6);
        }
        x.filterTerms(0, 0b0000010011);
        x.filterTerms(1, 0b0000000010);
        x.filterTerms(2, 0b0000001000);
        x.filterTags(2, 0);
        x.filterRange(4, 6, 5);
        due("filterRange(5, -9, 9)", x.filterRange(5, -9, 9), 0);
        for (int bad : new int[] {-1, 6, MIN, MAX}) {
            due("release(" + bad + ")", x.release(bad), -2);
        }
        due("refused: matching()", x.matching(), 0);
        due("release(4)", x.release(4), 0);
        due("release(5)", x.release(5), 0);
        due("release(3)", x.release(3), 1);
        due("release(2)", x.release(2), 3);
        due("release(0)", x.release(0), 4);
        due("release(1)", x.release(1), 6);
        due("release(1) again", x.release(1), 6);
    }

    private static void documents() {
        promise = 9;
        FacetDesk x = library();
        due("documents()", x.documents(), 6);
        x.filterRange(4, 1, 0);
        due("filtered: documents()", x.documents(), 6);
        x.remove(5);
        due("documents()", x.documents(), 5);
        due("full: documents()", full().documents(), 48);
    }

    private static void valueOf() {
        promise = 10;
        FacetDesk x = library();
        int[] fifth = {4, 2, 9, 129, -999, 999};
        for (int field = 0; field < 6; field++) {
            due("valueOf(4, " + field + ")", x.valueOf(4, field), fifth[field]);
        }
        x.filterRange(4, 1, 0);
        due("filtered: valueOf(4, 3)", x.valueOf(4, 3), 129);
        for (int bad : new int[] {-1, 6, 48, MIN, MAX}) {
            due("valueOf(" + bad + ", 0)", x.valueOf(bad, 0), -1000);
            due("valueOf(" + bad + ", 6)", x.valueOf(bad, 6), -1000);
        }
        for (int bad : new int[] {-1, 6, MIN, MAX}) {
            due("valueOf(0, " + bad + ")", x.valueOf(0, bad), -1001);
        }
    }

    private static void matching() {
        promise = 11;
        FacetDesk x = library();
        due("matching()", x.matching(), 6);
        x.filterTerms(0, 0b0000010001);
        due("one filter: matching()", x.matching(), 4);
        x.filterTerms(2, 0b0000000100);
        due("two filters: matching()", x.matching(), 3);
        x.make(4, 0, 2);
        due("one more: matching()", x.matching(), 4);
        x.set(6, 0, 5);
        due("changed: matching()", x.matching(), 3);
        x.remove(0);
        due("removed: matching()", x.matching(), 2);
        due("full: matching()", full().matching(), 48);
    }

    private static void facet() {
        promise = 12;
        FacetDesk x = library();
        due("facet(0, 4)", x.facet(0, 4), 2);
        due("facet(0, 5)", x.facet(0, 5), 0);
        due("facet(2, 9)", x.facet(2, 9), 1);
        due("facet(3, 0)", x.facet(3, 0), 3);
        due("facet(3, 7)", x.facet(3, 7), 2);
        x.filterTerms(0, 1);
        due("its own filter: facet(0, 4)", x.facet(0, 4), 2);
        due("another's filter: facet(1, 1)", x.facet(1, 1), 1);
        due("another's filter: facet(3, 7)", x.facet(3, 7), 0);
        x.filterTags(2, 2);
        due("facet(3, 1)", x.facet(3, 1), 2);
        due("facet(0, 4)", x.facet(0, 4), 2);
        due("facet(0, 0)", x.facet(0, 0), 0);
        x.filterRange(5, 0, 999);
        due("facet(0, 4)", x.facet(0, 4), 1);
        x.remove(4);
        due("removed: facet(0, 4)", x.facet(0, 4), 0);
        for (int bad : new int[] {-1, 4, 5, 6, MIN, MAX}) {
            due("facet(" + bad + ", 0)", x.facet(bad, 0), -2);
            due("facet(" + bad + ", 10)", x.facet(bad, 10), -2);
        }
        for (int bad : new int[] {-1, 10, MIN, MAX, 32, 64}) {
            for (int field = 0; field < 4; field++) {
                due("facet(" + field + ", " + bad + ")", x.facet(field, bad), -3);
            }
        }
        due("facet(3, 8)", x.facet(3, 8), -3);
        due("facet(3, 9)", x.facet(3, 9), -3);
        due("facet(0, 9)", x.facet(0, 9), 0);
        FacetDesk none = new FacetDesk();
        due("no documents: facet(0, 0)", none.facet(0, 0), 0);
    }

    private static void topTerm() {
        promise = 13;
        FacetDesk x = library();
        int[] terms = {0, 4, 1, 9, -6};
        int[] tags = {0, 1, 2, 7, 3, 4, 5, 6, -6};
        for (int k = 0; k < terms.length; k++) {
            due("topTerm(0, " + k + ")", x.topTerm(0, k), terms[k]);
        }
        for (int k = 0; k < tags.length; k++) {
            due("topTerm(3, " + k + ")", x.topTerm(3, k), tags[k]);
        }
        x.filterTerms(0, 2);
        due("its own filter: topTerm(0, 1)", x.topTerm(0, 1), 4);
        due("another's filter: topTerm(3, 0)", x.topTerm(3, 0), 2);
        due("another's filter: topTerm(3, 1)", x.topTerm(3, 1), -6);
        x.make(4, 0, 0);
        due("topTerm(0, 0)", x.topTerm(0, 0), 4);
        due("topTerm(0, 1)", x.topTerm(0, 1), 0);
        for (int bad : new int[] {-1, 4, 10, MIN, MAX}) {
            due("topTerm(0, " + bad + ")", x.topTerm(0, bad), -6);
        }
        for (int bad : new int[] {-1, 4, 5, 6, MIN, MAX}) {
            due("topTerm(" + bad + ", 0)", x.topTerm(bad, 0), -2);
            due("topTerm(" + bad + ", -1)", x.topTerm(bad, -1), -2);
        }
        FacetDesk all = full();
        due("full: topTerm(0, 7)", all.topTerm(0, 7), 7);
        due("full: topTerm(0, 9)", all.topTerm(0, 9), 9);
        due("full: topTerm(2, 0)", all.topTerm(2, 0), 0);
        due("full: topTerm(2, 8)", all.topTerm(2, 8), 3);
        due("no documents: topTerm(1, 0)", new FacetDesk().topTerm(1, 0), -6);
    }

    private static void between() {
        promise = 14;
        FacetDesk x = library();
        due("between(4, 5, 99)", x.between(4, 5, 99), 3);
        due("between(4, 6, 98)", x.between(4, 6, 98), 0);
        due("between(5, 0, 20)", x.between(5, 0, 20), 3);
        x.filterRange(4, 5, 5);
        due("its own filter: between(4, MIN, MAX)", x.between(4, MIN, MAX), 6);
        due("another's filter: between(5, MIN, MAX)", x.between(5, MIN, MAX), 2);
        x.filterRange(5, 1, 0);
        due("both: between(4, MIN, MAX)", x.between(4, MIN, MAX), 0);
        due("both: between(5, -10, 19)", x.between(5, -10, 19), 1);
        due("between(5, 20, -10)", x.between(5, 20, -10), 0);
        due("between(5, MAX, MIN)", x.between(5, MAX, MIN), 0);
        x.remove(0);
        due("removed: between(5, -10, 19)", x.between(5, -10, 19), 0);
        for (int bad : new int[] {-1, 0, 1, 2, 3, 6, MIN, MAX}) {
            due("between(" + bad + ", 0, 0)", x.between(bad, 0, 0), -2);
        }
    }

    private static void ranked() {
        promise = 15;
        FacetDesk x = library();
        int[] rising = {-999, -3, 5, 5, 99, 999, -2001};
        for (int k = 0; k < rising.length; k++) {
            due("ranked(4, " + k + ")", x.ranked(4, k), rising[k]);
        }
        x.filterRange(4, -3, 5);
        due("filtered: ranked(4, 0)", x.ranked(4, 0), -3);
        due("filtered: ranked(4, 2)", x.ranked(4, 2), 5);
        due("filtered: ranked(4, 3)", x.ranked(4, 3), -2001);
        due("filtered: ranked(5, 0)", x.ranked(5, 0), -10);
        due("filtered: ranked(5, 2)", x.ranked(5, 2), 20);
        for (int bad : new int[] {-1, 48, MIN, MAX}) {
            due("ranked(5, " + bad + ")", x.ranked(5, bad), -2001);
        }
        for (int bad : new int[] {-1, 0, 1, 2, 3, 6, MIN, MAX}) {
            due("ranked(" + bad + ", 0)", x.ranked(bad, 0), -2000);
            due("ranked(" + bad + ", -1)", x.ranked(bad, -1), -2000);
        }
        due("full: ranked(4, 47)", full().ranked(4, 47), 0);
        due("no documents: ranked(4, 0)", new FacetDesk().ranked(4, 0), -2001);
    }

    private static void sorted() {
        promise = 16;
        FacetDesk x = library();
        int[] rising = {4, 1, 0, 2, 3, 5, -6};
        int[] falling = {5, 3, 0, 2, 1, 4, -6};
        for (int k = 0; k < rising.length; k++) {
            due("sorted(4, 0, " + k + ")", x.sorted(4, 0, k), rising[k]);
            due("sorted(4, 1, " + k + ")", x.sorted(4, 1, k), falling[k]);
        }
        due("sorted(5, 1, 1)", x.sorted(5, 1, 1), 1);
        due("sorted(5, 1, 2)", x.sorted(5, 1, 2), 2);
        x.filterTerms(0, 0b0000010010);
        due("filtered: sorted(5, 0, 0)", x.sorted(5, 0, 0), 3);
        due("filtered: sorted(5, 1, 0)", x.sorted(5, 1, 0), 4);
        due("filtered: sorted(5, 1, 3)", x.sorted(5, 1, 3), -6);
        x.remove(3);
        due("removed: sorted(5, 0, 0)", x.sorted(5, 0, 0), 2);
        x.filterRange(5, 21, 999);
        due("filtered by the number: sorted(5, 0, 0)", x.sorted(5, 0, 0), 4);
        due("filtered by the number: sorted(5, 0, 1)", x.sorted(5, 0, 1), -6);
        for (int bad : new int[] {-1, 48, MIN, MAX}) {
            due("sorted(4, 0, " + bad + ")", x.sorted(4, 0, bad), -6);
        }
        for (int bad : new int[] {-1, 2, MIN, MAX}) {
            due("sorted(4, " + bad + ", 0)", x.sorted(4, bad, 0), -5);
            due("sorted(4, " + bad + ", -1)", x.sorted(4, bad, -1), -5);
        }
        for (int bad : new int[] {-1, 0, 1, 2, 3, 6, MIN, MAX}) {
            due("sorted(" + bad + ", 0, 0)", x.sorted(bad, 0, 0), -2);
            due("sorted(" + bad + ", 2, -1)", x.sorted(bad, 2, -1), -2);
        }
        FacetDesk all = full();
        due("full: sorted(4, 1, 47)", all.sorted(4, 1, 47), 47);
        due("full: sorted(4, 0, 47)", all.sorted(4, 0, 47), 47);
    }

    private static void sum() {
        promise = 17;
        FacetDesk x = library();
        due("sum(0, 0, 4)", x.sum(0, 0, 4), 2);
        due("sum(0, 0, 5)", x.sum(0, 0, 5), 10);
        due("sum(0, 4, 4)", x.sum(0, 4, 4), -900);
        due("sum(0, 3, 4)", x.sum(0, 3, 4), 0);
        due("sum(2, 9, 5)", x.sum(2, 9, 5), 999);
        due("sum(3, 0, 4)", x.sum(3, 0, 4), 5);
        due("sum(3, 7, 5)", x.sum(3, 7, 5), 999);
        x.filterTerms(0, 1);
        due("filtered: sum(0, 4, 4)", x.sum(0, 4, 4), 0);
        due("filtered: sum(3, 1, 4)", x.sum(3, 1, 4), 2);
        x.remove(0);
        due("removed: sum(0, 0, 4)", x.sum(0, 0, 4), -3);
        x.filterRange(4, 0, 999);
        due("filtered by the summed field: sum(0, 0, 4)", x.sum(0, 0, 4), 0);
        x.release(0);
        due("filtered by the summed field: sum(0, 4, 4)", x.sum(0, 4, 4), 99);
        for (int bad : new int[] {-1, 4, 5, 6, MIN, MAX}) {
            due("sum(" + bad + ", 0, 4)", x.sum(bad, 0, 4), -1000000);
            due("sum(" + bad + ", 10, 4)", x.sum(bad, 10, 4), -1000000);
        }
        for (int bad : new int[] {-1, 0, 3, 6, MIN, MAX}) {
            due("sum(0, 0, " + bad + ")", x.sum(0, 0, bad), -1000000);
            due("sum(0, 10, " + bad + ")", x.sum(0, 10, bad), -1000000);
        }
        for (int bad : new int[] {-1, 10, MIN, MAX, 32}) {
            due("sum(0, " + bad + ", 4)", x.sum(0, bad, 4), -1000001);
            due("sum(3, " + bad + ", 5)", x.sum(3, bad, 5), -1000001);
        }
        due("sum(3, 8, 4)", x.sum(3, 8, 4), -1000001);
        due("sum(2, 9, 4)", x.sum(2, 9, 4), 0);
        FacetDesk all = full();
        for (int d = 0; d < 48; d++) {
            all.set(d, 0, 7);
            all.set(d, 5, -999);
        }
        due("full: sum(0, 7, 5)", all.sum(0, 7, 5), -47952);
    }

    private static void extreme() {
        promise = 18;
        FacetDesk x = library();
        due("extreme(0, 4)", x.extreme(0, 4), -3);
        due("extreme(1, 4)", x.extreme(1, 4), 5);
        due("extreme(40, 5)", x.extreme(40, 5), -999);
        due("extreme(41, 5)", x.extreme(41, 5), 999);
        due("extreme(290, 4)", x.extreme(290, 4), -999);
        due("extreme(291, 4)", x.extreme(291, 4), -999);
        due("extreme(300, 4)", x.extreme(300, 4), -999);
        due("extreme(301, 4)", x.extreme(301, 4), 999);
        due("extreme(321, 5)", x.extreme(321, 5), 20);
        due("extreme(20, 4)", x.extreme(20, 4), -2002);
        due("extreme(21, 4)", x.extreme(21, 4), -2002);
        due("extreme(91, 5)", x.extreme(91, 5), 0);
        x.filterTags(128, 2);
        due("filtered: extreme(41, 5)", x.extreme(41, 5), -999);
        due("filtered by the group: extreme(370, 5)", x.extreme(370, 5), -2002);
        x.filterRange(4, -2, 98);
        due("filtered by the number: extreme(0, 4)", x.extreme(0, 4), 5);
        due("filtered by the number: extreme(41, 4)", x.extreme(41, 4), -2002);
        x.release(4);
        x.remove(3);
        due("removed: extreme(40, 5)", x.extreme(40, 5), -2002);
        for (int bad : new int[] {-1, -10, -100, MIN, 400, 401, 2, 9, 302, 399, 1000, MAX}) {
            due("extreme(" + bad + ", 4)", x.extreme(bad, 4), -2000);
        }
        for (int bad : new int[] {-1, 0, 3, 6, MIN, MAX}) {
            due("extreme(0, " + bad + ")", x.extreme(0, bad), -2000);
            due("extreme(380, " + bad + ")", x.extreme(380, bad), -2000);
        }
        due("extreme(382, 4)", x.extreme(382, 4), -2000);
        for (int bad : new int[] {380, 381, 390, 391}) {
            due("extreme(" + bad + ", 5)", x.extreme(bad, 5), -2001);
        }
        due("extreme(280, 5)", x.extreme(280, 5), -2002);
    }

    private static void different() {
        promise = 19;
        FacetDesk x = library();
        int[] all = {4, 2, 3, 6, 5, 5};
        int[] filtered = {3, 1, 2, 4, 3, 4};
        int[] removed = {2, 1, 2, 3, 3, 3};
        for (int field = 0; field < 6; field++) {
            due("different(" + field + ")", x.different(field), all[field]);
        }
        x.filterTerms(1, 2);
        x.set(3, 0, 1);
        for (int field = 0; field < 6; field++) {
            due("filtered: different(" + field + ")", x.different(field), filtered[field]);
        }
        x.remove(0);
        for (int field = 0; field < 6; field++) {
            due("removed: different(" + field + ")", x.different(field), removed[field]);
        }
        for (int bad : new int[] {-1, 6, MIN, MAX}) {
            due("different(" + bad + ")", x.different(bad), -2);
        }
        due("no documents: different(4)", new FacetDesk().different(4), 0);
        FacetDesk full = full();
        due("full: different(0)", full.different(0), 10);
        for (int d = 0; d < 48; d++) {
            full.set(d, 5, d - 24);
        }
        due("full: different(5)", full.different(5), 48);
    }

    private static void pairs() {
        promise = 20;
        FacetDesk x = library();
        due("pairs(0, 1)", x.pairs(0, 1), 6);
        due("pairs(1, 0)", x.pairs(1, 0), 6);
        due("pairs(1, 2)", x.pairs(1, 2), 4);
        due("pairs(2, 1)", x.pairs(2, 1), 4);
        due("pairs(0, 0)", x.pairs(0, 0), 4);
        due("pairs(2, 2)", x.pairs(2, 2), 3);
        x.filterTerms(1, 2);
        due("filtered: pairs(1, 2)", x.pairs(1, 2), 2);
        due("filtered: pairs(0, 2)", x.pairs(0, 2), 4);
        x.remove(2);
        due("removed: pairs(1, 2)", x.pairs(1, 2), 1);
        for (int bad : new int[] {-1, 3, 4, 5, 6, MIN, MAX}) {
            due("pairs(" + bad + ", 0)", x.pairs(bad, 0), -2);
            due("pairs(0, " + bad + ")", x.pairs(0, bad), -2);
            due("pairs(" + bad + ", " + bad + ")", x.pairs(bad, bad), -2);
        }
        FacetDesk twisted = desk(row(1, 2, 0, 0, 0, 0), row(2, 1, 0, 0, 0, 0));
        due("(1, 2) and (2, 1): pairs(0, 1)", twisted.pairs(0, 1), 2);
        due("full: pairs(0, 1)", full().pairs(0, 1), 48);
        due("full: pairs(0, 2)", full().pairs(0, 2), 10);
    }

    private static void box() {
        promise = 21;
        FacetDesk x = library();
        due("box(4, 5, 0)", x.box(4, 5, 0), 0);
        due("box(4, 5, 1)", x.box(4, 5, 1), 2);
        due("box(4, 5, -1)", x.box(4, 5, -1), 1);
        due("box(4, 3, -1)", x.box(4, 3, -1), 1);
        due("box(4, 3, -2)", x.box(4, 3, -2), 0);
        due("box(4, 999, 0)", x.box(4, 999, 0), 3);
        due("box(4, 999, 1)", x.box(4, 999, 1), 1);
        due("box(4, 999, -1)", x.box(4, 999, -1), 2);
        due("box(4, 998, -2)", x.box(4, 998, -2), 1);
        due("box(4, 1, 999)", x.box(4, 1, 999), 1);
        due("box(5, 10, 2)", x.box(5, 10, 2), 2);
        x.filterRange(4, -3, 5);
        due("filtered: box(4, 5, 1)", x.box(4, 5, 1), 2);
        due("filtered: box(4, 999, 0)", x.box(4, 999, 0), 2);
        due("filtered: box(5, 100, 0)", x.box(5, 100, 0), 2);
        x.remove(2);
        due("removed: box(5, 100, 0)", x.box(5, 100, 0), 1);
        for (int bad : new int[] {0, -1, 1000, MIN, MAX}) {
            due("box(4, " + bad + ", 0)", x.box(4, bad, 0), -5);
        }
        for (int bad : new int[] {-1, 0, 1, 2, 3, 6, MIN, MAX}) {
            due("box(" + bad + ", 1, 0)", x.box(bad, 1, 0), -2);
            due("box(" + bad + ", 0, 0)", x.box(bad, 0, 0), -2);
        }
        farBoxes();
    }

    /** A b times whose width, in ints, wraps to 0 or close to it: no number lies there. */
    private static void farBoxes() {
        FacetDesk x = full();
        for (int d = 0; d < 48; d++) {
            x.set(d, 4, d * 42 - 999);
        }
        for (int width : new int[] {1, 2, 4, 8, 100, 512, 768, 998, 999}) {
            for (int turn = 1; turn <= width; turn *= 2) {
                int near = (int) ((1L << 32) * turn / width);
                if (near > 1000) {
                    due("box(4, " + width + ", " + near + ")", x.box(4, width, near), 0);
                    due("box(4, " + width + ", -" + near + ")", x.box(4, width, -near), 0);
                }
            }
            due("box(4, " + width + ", MAX)", x.box(4, width, MAX), 0);
            due("box(4, " + width + ", MIN)", x.box(4, width, MIN), 0);
        }
    }

    public static void main(String[] args) {
        newObject();
        make();
        remove();
        set();
        filterTerms();
        filterTags();
        filterRange();
        release();
        documents();
        valueOf();
        matching();
        facet();
        topTerm();
        between();
        ranked();
        sorted();
        sum();
        extreme();
        different();
        pairs();
        box();
        System.out.println(wrong == 0 ? "all answers are as due" : wrong + " answers are not as due");
        if (wrong != 0) {
            System.exit(1);
        }
    }
}
