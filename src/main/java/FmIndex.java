/** A few short documents and a pattern that is searched in them; see README.md. */
public final class FmIndex {
    private static final int REFUSED = -1;
    private static final int REFUSED_SECOND = -2;
    private static final int REFUSED_THIRD = -3;

    private static final int SYMBOLS = 5;
    private static final int MOST_DOCUMENTS = 5;
    private static final int MOST_SYMBOLS = 60;
    private static final int MOST_PATTERN = 8;

    /** A place is ROOM * document + position, so a place is also its own index in text. */
    private static final int ROOM = 64;
    /** ROOM * MOST_DOCUMENTS: every place is below it. */
    private static final int PLACES = 320;

    private final int[] text = new int[PLACES];
    private final int[] lengths = new int[MOST_DOCUMENTS];
    private final int[] pattern = new int[MOST_PATTERN];
    private int documentCount;
    private int symbolCount;
    private int patternLength;

    public FmIndex() {
        documentCount = 1;
        symbolCount = 0;
        patternLength = 0;
    }

    public int push(int symbol) {
        if (!isSymbol(symbol)) {
            return REFUSED;
        }
        if (symbolCount >= MOST_SYMBOLS) {
            return REFUSED_SECOND;
        }
        append(symbol);
        return symbolCount;
    }

    public int paste(int d, int spec) {
        if (!isDocument(d)) {
            return REFUSED;
        }
        // Java's division rounds towards 0: not every negative spec would give a negative p.
        if (spec < 0) {
            return REFUSED_SECOND;
        }
        int from = spec / ROOM;
        int many = spec % ROOM;
        if (many < 1 || many > MOST_SYMBOLS || from + many > lengths[d]) {
            return REFUSED_SECOND;
        }
        if (symbolCount + many > MOST_SYMBOLS) {
            return REFUSED_THIRD;
        }
        int source = ROOM * d + from;
        for (int k = 0; k < many; k++) {
            append(text[source + k]);
        }
        return symbolCount;
    }

    public int open() {
        if (documentCount >= MOST_DOCUMENTS) {
            return REFUSED;
        }
        lengths[documentCount] = 0;
        documentCount++;
        return documentCount;
    }

    public int pop() {
        int last = documentCount - 1;
        if (lengths[last] == 0) {
            return REFUSED;
        }
        lengths[last]--;
        symbolCount--;
        return text[ROOM * last + lengths[last]];
    }

    public int close() {
        int last = documentCount - 1;
        int had = lengths[last];
        lengths[last] = 0;
        symbolCount -= had;
        if (documentCount > 1) {
            documentCount--;
        }
        return had;
    }

    public int documents() {
        return documentCount;
    }

    public int length(int d) {
        return isDocument(d) ? lengths[d] : REFUSED;
    }

    public int symbolAt(int place) {
        return isPlace(place) ? text[place] : REFUSED;
    }

    public int ask(int symbol) {
        if (!isSymbol(symbol)) {
            return REFUSED;
        }
        if (patternLength >= MOST_PATTERN) {
            return REFUSED_SECOND;
        }
        pattern[patternLength] = symbol;
        patternLength++;
        return patternLength;
    }

    public int forget() {
        int had = patternLength;
        patternLength = 0;
        return had;
    }

    public int count() {
        if (patternLength == 0) {
            return REFUSED;
        }
        int found = 0;
        for (int d = 0; d < documentCount; d++) {
            found += occurrencesIn(d);
        }
        return found;
    }

    public int occurrence(int i) {
        if (patternLength == 0) {
            return REFUSED;
        }
        int before = 0;
        for (int place = 0; place < PLACES; place++) {
            if (isPlace(place) && partOccursAt(0, patternLength, place)) {
                if (before == i) {
                    return place;
                }
                before++;
            }
        }
        return REFUSED_SECOND;
    }

    public int countIn(int d) {
        if (patternLength == 0) {
            return REFUSED;
        }
        if (!isDocument(d)) {
            return REFUSED_SECOND;
        }
        return occurrencesIn(d);
    }

    public int spread() {
        if (patternLength == 0) {
            return REFUSED;
        }
        int found = 0;
        for (int d = 0; d < documentCount; d++) {
            if (occurrencesIn(d) > 0) {
                found++;
            }
        }
        return found;
    }

    public int longestEnd() {
        for (int k = patternLength; k > 0; k--) {
            if (partOccurs(patternLength - k, patternLength)) {
                return k;
            }
        }
        return 0;
    }

    public int longestBegin() {
        for (int k = patternLength; k > 0; k--) {
            if (partOccurs(0, k)) {
                return k;
            }
        }
        return 0;
    }

    public int ranked(int i) {
        for (int place = 0; place < PLACES; place++) {
            if (isPlace(place) && restsBefore(place) == i) {
                return place;
            }
        }
        return REFUSED;
    }

    public int rankOf(int place) {
        return isPlace(place) ? restsBefore(place) : REFUSED;
    }

    public int common(int place, int other) {
        if (!isPlace(place) || !isPlace(other)) {
            return REFUSED;
        }
        return sharedLength(place, other);
    }

    public int repeated() {
        int longest = 0;
        for (int place = 0; place < PLACES; place++) {
            if (isPlace(place)) {
                int shared = longestSharedEarlier(place);
                if (shared > longest) {
                    longest = shared;
                }
            }
        }
        return longest;
    }

    public int different() {
        int rows = 0;
        for (int place = 0; place < PLACES; place++) {
            if (isPlace(place)) {
                // Each row is counted at its first place alone: the beginnings of this rest
                // that occur earlier are just those up to the longest shared one.
                rows += restLength(place) - longestSharedEarlier(place);
            }
        }
        return rows;
    }

    public int extensions() {
        int found = 0;
        for (int symbol = 0; symbol < SYMBOLS; symbol++) {
            if (extensionOccurs(symbol)) {
                found++;
            }
        }
        return found;
    }

    private boolean isSymbol(int symbol) {
        return symbol >= 0 && symbol < SYMBOLS;
    }

    private boolean isDocument(int d) {
        return d >= 0 && d < documentCount;
    }

    private boolean isPlace(int place) {
        return place >= 0 && isDocument(place / ROOM) && place % ROOM < lengths[place / ROOM];
    }

    /** The caller has made sure that there is room. */
    private void append(int symbol) {
        int last = documentCount - 1;
        text[ROOM * last + lengths[last]] = symbol;
        lengths[last]++;
        symbolCount++;
    }

    /** Also answers for the position just behind a document's end, where it is 0. */
    private int restLength(int place) {
        return lengths[place / ROOM] - place % ROOM;
    }

    /** Whether the rest at place begins with the pattern's symbols from .. to - 1. */
    private boolean partOccursAt(int from, int to, int place) {
        if (to - from > restLength(place)) {
            return false;
        }
        for (int k = from; k < to; k++) {
            if (text[place + k - from] != pattern[k]) {
                return false;
            }
        }
        return true;
    }

    private boolean partOccurs(int from, int to) {
        for (int place = 0; place < PLACES; place++) {
            if (isPlace(place) && partOccursAt(from, to, place)) {
                return true;
            }
        }
        return false;
    }

    private int occurrencesIn(int d) {
        int found = 0;
        for (int p = 0; p < lengths[d]; p++) {
            if (partOccursAt(0, patternLength, ROOM * d + p)) {
                found++;
            }
        }
        return found;
    }

    /** The pattern may be empty: then the symbol alone is looked for, even at a document's end. */
    private boolean extensionOccurs(int symbol) {
        for (int place = 0; place < PLACES; place++) {
            if (isPlace(place) && text[place] == symbol
                    && partOccursAt(0, patternLength, place + 1)) {
                return true;
            }
        }
        return false;
    }

    private int sharedLength(int place, int other) {
        int length = restLength(place);
        int otherLength = restLength(other);
        int most = length < otherLength ? length : otherLength;
        for (int k = 0; k < most; k++) {
            if (text[place + k] != text[other + k]) {
                return k;
            }
        }
        return most;
    }

    /** The longest beginning of the rest at place that also occurs at a smaller place. */
    private int longestSharedEarlier(int place) {
        int longest = 0;
        for (int other = 0; other < place; other++) {
            if (isPlace(other)) {
                int shared = sharedLength(place, other);
                if (shared > longest) {
                    longest = shared;
                }
            }
        }
        return longest;
    }

    private boolean comesBefore(int place, int other) {
        int shared = sharedLength(place, other);
        int length = restLength(place);
        int otherLength = restLength(other);
        if (shared < length && shared < otherLength) {
            return text[place + shared] < text[other + shared];
        }
        if (length != otherLength) {
            return length < otherLength;
        }
        // Equal rests stand in different documents, so the places are in the documents' order.
        return place < other;
    }

    private int restsBefore(int place) {
        int before = 0;
        for (int other = 0; other < PLACES; other++) {
            if (isPlace(other) && comesBefore(other, place)) {
                before++;
            }
        }
        return before;
    }
}
