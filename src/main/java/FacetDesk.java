/** Documents with fields, filters on each field, facets that look beside the filters, and sums by groups. */
public final class FacetDesk {
    private static final int DOCUMENTS = 48;
    private static final int FIELDS = 6;
    private static final int VALUES = DOCUMENTS * FIELDS;
    private static final int SET_FIELD = 3;
    private static final int NO_FIELD = -1;

    private static final int TERMS = 10;
    private static final int TAGS = 8;
    private static final int ALL_TERMS = 1023;
    private static final int ALL_TAGS = 255;
    private static final int GREATEST_NUMBER = 999;
    private static final int GREATEST_WIDTH = 999;

    private static final int ANY_TAG = 0;
    private static final int EVERY_TAG = 1;
    private static final int NO_TAG = 2;

    private static final int RISING = 0;
    private static final int FALLING = 1;

    private static final int LEAST = 0;
    private static final int GREATEST = 1;

    private static final int WRONG_DOCUMENT = -1;
    private static final int WRONG_FIELD = -2;
    private static final int WRONG_VALUE = -3;
    private static final int FULL = -4;
    private static final int WRONG_MODE = -5;
    private static final int NONE = -6;

    // Where an answer may itself be a small negative number, the refusals lie outside its range.
    private static final int VALUE_WRONG_DOCUMENT = -1000;
    private static final int VALUE_WRONG_FIELD = -1001;
    private static final int RANKED_WRONG_FIELD = -2000;
    private static final int RANKED_NONE = -2001;
    private static final int SUM_WRONG_FIELD = -1000000;
    private static final int SUM_WRONG_TERM = -1000001;
    private static final int EXTREME_WRONG_FIELD = -2000;
    private static final int EXTREME_WRONG_TERM = -2001;
    private static final int EXTREME_NONE = -2002;

    private final boolean[] present = new boolean[DOCUMENTS];
    // The fields of one document lie side by side, as arrays have one dimension only.
    private final int[] values = new int[VALUES];

    private final boolean[] filtered = new boolean[FIELDS];
    // A term field keeps its set in the first; the set field its tags and its mode; a number field its range's two ends.
    private final int[] filterFirst = new int[FIELDS];
    private final int[] filterSecond = new int[FIELDS];

    public FacetDesk() {
    }

    public int make(int a, int b, int c) {
        if (!isTermOf(0, a) || !isTermOf(1, b) || !isTermOf(2, c)) {
            return WRONG_VALUE;
        }
        int document = leastFree();
        if (document == DOCUMENTS) {
            return FULL;
        }
        present[document] = true;
        int at = document * FIELDS;
        values[at] = a;
        values[at + 1] = b;
        values[at + 2] = c;
        // A removed document may have left its tags and numbers here.
        values[at + 3] = 0;
        values[at + 4] = 0;
        values[at + 5] = 0;
        return document;
    }

    public int remove(int document) {
        if (!isDocument(document)) {
            return WRONG_DOCUMENT;
        }
        present[document] = false;
        return documents();
    }

    public int set(int document, int field, int value) {
        if (!isDocument(document)) {
            return WRONG_DOCUMENT;
        }
        if (!isField(field)) {
            return WRONG_FIELD;
        }
        if (!isValueOf(field, value)) {
            return WRONG_VALUE;
        }
        int at = document * FIELDS + field;
        if (values[at] == value) {
            return 0;
        }
        values[at] = value;
        return 1;
    }

    public int filterTerms(int field, int terms) {
        if (!isTermField(field)) {
            return WRONG_FIELD;
        }
        if (terms < 1 || terms > ALL_TERMS) {
            return WRONG_VALUE;
        }
        keepFilter(field, terms, 0);
        return matching();
    }

    public int filterTags(int tags, int mode) {
        if (tags < 1 || tags > ALL_TAGS) {
            return WRONG_VALUE;
        }
        if (mode != ANY_TAG && mode != EVERY_TAG && mode != NO_TAG) {
            return WRONG_MODE;
        }
        keepFilter(SET_FIELD, tags, mode);
        return matching();
    }

    public int filterRange(int field, int least, int greatest) {
        if (!isNumberField(field)) {
            return WRONG_FIELD;
        }
        keepFilter(field, least, greatest);
        return matching();
    }

    public int release(int field) {
        if (!isField(field)) {
            return WRONG_FIELD;
        }
        filtered[field] = false;
        return matching();
    }

    public int documents() {
        int count = 0;
        for (int document = 0; document < DOCUMENTS; document++) {
            if (present[document]) {
                count++;
            }
        }
        return count;
    }

    public int valueOf(int document, int field) {
        if (!isDocument(document)) {
            return VALUE_WRONG_DOCUMENT;
        }
        if (!isField(field)) {
            return VALUE_WRONG_FIELD;
        }
        return values[document * FIELDS + field];
    }

    public int matching() {
        int count = 0;
        for (int document = 0; document < DOCUMENTS; document++) {
            if (matches(document)) {
                count++;
            }
        }
        return count;
    }

    public int facet(int field, int term) {
        if (!isGroupField(field)) {
            return WRONG_FIELD;
        }
        if (!isTermOf(field, term)) {
            return WRONG_VALUE;
        }
        return countBeside(field, term);
    }

    public int topTerm(int field, int k) {
        if (!isGroupField(field)) {
            return WRONG_FIELD;
        }
        int terms = termsOf(field);
        for (int term = 0; term < terms; term++) {
            if (countBeside(field, term) > 0 && termsAhead(field, term) == k) {
                return term;
            }
        }
        return NONE;
    }

    public int between(int field, int least, int greatest) {
        if (!isNumberField(field)) {
            return WRONG_FIELD;
        }
        int count = 0;
        for (int document = 0; document < DOCUMENTS; document++) {
            int number = values[document * FIELDS + field];
            if (number >= least && number <= greatest && matchesBeside(document, field)) {
                count++;
            }
        }
        return count;
    }

    public int ranked(int field, int k) {
        if (!isNumberField(field)) {
            return RANKED_WRONG_FIELD;
        }
        int document = documentAt(field, RISING, k);
        if (document == DOCUMENTS) {
            return RANKED_NONE;
        }
        return values[document * FIELDS + field];
    }

    public int sorted(int field, int way, int k) {
        if (!isNumberField(field)) {
            return WRONG_FIELD;
        }
        if (way != RISING && way != FALLING) {
            return WRONG_MODE;
        }
        int document = documentAt(field, way, k);
        if (document == DOCUMENTS) {
            return NONE;
        }
        return document;
    }

    public int sum(int group, int term, int field) {
        if (!isGroupField(group) || !isNumberField(field)) {
            return SUM_WRONG_FIELD;
        }
        if (!isTermOf(group, term)) {
            return SUM_WRONG_TERM;
        }
        int total = 0;
        for (int document = 0; document < DOCUMENTS; document++) {
            if (has(document, group, term) && matches(document)) {
                total += values[document * FIELDS + field];
            }
        }
        return total;
    }

    public int extreme(int what, int field) {
        if (what < 0) {
            return EXTREME_WRONG_FIELD;
        }
        int group = what / 100;
        int term = what / 10 % 10;
        int which = what % 10;
        if (!isGroupField(group) || !isNumberField(field) || (which != LEAST && which != GREATEST)) {
            return EXTREME_WRONG_FIELD;
        }
        if (!isTermOf(group, term)) {
            return EXTREME_WRONG_TERM;
        }
        boolean found = false;
        int best = EXTREME_NONE;
        for (int document = 0; document < DOCUMENTS; document++) {
            if (has(document, group, term) && matches(document)) {
                int number = values[document * FIELDS + field];
                boolean better = which == LEAST ? number < best : number > best;
                if (!found || better) {
                    best = number;
                    found = true;
                }
            }
        }
        return best;
    }

    public int different(int field) {
        if (!isField(field)) {
            return WRONG_FIELD;
        }
        return differentPairs(field, field);
    }

    public int pairs(int field, int other) {
        if (!isTermField(field) || !isTermField(other)) {
            return WRONG_FIELD;
        }
        return differentPairs(field, other);
    }

    public int box(int field, int width, int b) {
        if (!isNumberField(field)) {
            return WRONG_FIELD;
        }
        if (width < 1 || width > GREATEST_WIDTH) {
            return WRONG_MODE;
        }
        // In ints, a far b would wrap round to a box near 0.
        long start = (long) b * width;
        long end = start + width;
        int count = 0;
        for (int document = 0; document < DOCUMENTS; document++) {
            int number = values[document * FIELDS + field];
            if (number >= start && number < end && matches(document)) {
                count++;
            }
        }
        return count;
    }

    private boolean isDocument(int document) {
        return document >= 0 && document < DOCUMENTS && present[document];
    }

    private static boolean isField(int field) {
        return field >= 0 && field < FIELDS;
    }

    private static boolean isTermField(int field) {
        return field >= 0 && field < SET_FIELD;
    }

    private static boolean isGroupField(int field) {
        return field >= 0 && field <= SET_FIELD;
    }

    private static boolean isNumberField(int field) {
        return field > SET_FIELD && field < FIELDS;
    }

    private static int termsOf(int field) {
        return field == SET_FIELD ? TAGS : TERMS;
    }

    private static boolean isTermOf(int field, int term) {
        return term >= 0 && term < termsOf(field);
    }

    private static boolean isValueOf(int field, int value) {
        if (field < SET_FIELD) {
            return isTermOf(field, value);
        }
        if (field == SET_FIELD) {
            return value >= 0 && value <= ALL_TAGS;
        }
        return value >= -GREATEST_NUMBER && value <= GREATEST_NUMBER;
    }

    private int leastFree() {
        for (int document = 0; document < DOCUMENTS; document++) {
            if (!present[document]) {
                return document;
            }
        }
        return DOCUMENTS;
    }

    private void keepFilter(int field, int first, int second) {
        filtered[field] = true;
        filterFirst[field] = first;
        filterSecond[field] = second;
    }

    private boolean passes(int document, int field) {
        if (!filtered[field]) {
            return true;
        }
        int value = values[document * FIELDS + field];
        int first = filterFirst[field];
        int second = filterSecond[field];
        if (field < SET_FIELD) {
            return (first >> value & 1) == 1;
        }
        if (field > SET_FIELD) {
            return value >= first && value <= second;
        }
        int shared = value & first;
        if (second == ANY_TAG) {
            return shared != 0;
        }
        if (second == EVERY_TAG) {
            return shared == first;
        }
        return shared == 0;
    }

    private boolean matchesBeside(int document, int skipped) {
        if (!present[document]) {
            return false;
        }
        for (int field = 0; field < FIELDS; field++) {
            if (field != skipped && !passes(document, field)) {
                return false;
            }
        }
        return true;
    }

    private boolean matches(int document) {
        return matchesBeside(document, NO_FIELD);
    }

    private boolean has(int document, int field, int term) {
        int value = values[document * FIELDS + field];
        if (field == SET_FIELD) {
            return (value >> term & 1) == 1;
        }
        return value == term;
    }

    private int countBeside(int field, int term) {
        int count = 0;
        for (int document = 0; document < DOCUMENTS; document++) {
            if (has(document, field, term) && matchesBeside(document, field)) {
                count++;
            }
        }
        return count;
    }

    private int termsAhead(int field, int term) {
        int count = countBeside(field, term);
        int terms = termsOf(field);
        int ahead = 0;
        for (int other = 0; other < terms; other++) {
            int otherCount = countBeside(field, other);
            if (otherCount > count || (otherCount == count && other < term)) {
                ahead++;
            }
        }
        return ahead;
    }

    private int documentAt(int field, int way, int k) {
        for (int document = 0; document < DOCUMENTS; document++) {
            if (matches(document) && documentsAhead(document, field, way) == k) {
                return document;
            }
        }
        return DOCUMENTS;
    }

    private int documentsAhead(int document, int field, int way) {
        int number = values[document * FIELDS + field];
        int ahead = 0;
        for (int other = 0; other < DOCUMENTS; other++) {
            int otherNumber = values[other * FIELDS + field];
            boolean before = way == RISING ? otherNumber < number : otherNumber > number;
            boolean earlierEqual = otherNumber == number && other < document;
            if ((before || earlierEqual) && matches(other)) {
                ahead++;
            }
        }
        return ahead;
    }

    private int differentPairs(int field, int other) {
        int count = 0;
        for (int document = 0; document < DOCUMENTS; document++) {
            if (matches(document) && !isSeenEarlier(document, field, other)) {
                count++;
            }
        }
        return count;
    }

    private boolean isSeenEarlier(int document, int field, int other) {
        int value = values[document * FIELDS + field];
        int otherValue = values[document * FIELDS + other];
        for (int earlier = 0; earlier < document; earlier++) {
            int at = earlier * FIELDS;
            if (values[at + field] == value && values[at + other] == otherValue && matches(earlier)) {
                return true;
            }
        }
        return false;
    }
}
