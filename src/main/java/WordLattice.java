/**
 * A small dictionary and the cheapest way of cutting a text into words.
 *
 * Rows of up to five letters are held as one number, their code: a leading 1, then two bits for each
 * letter. The leading 1 keeps rows of different length apart (0 and 00, say).
 */
public final class WordLattice {
    private static final int MOST_WORDS = 16;
    private static final int MOST_SPELLED = 5;
    private static final int MOST_TYPED = 12;
    private static final int MOST_COST = 99;

    private static final int LETTER_BITS = 2;
    private static final int LETTER_MASK = 3;
    private static final int EMPTY_CODE = 1;

    private static final int WORD_KINDS = 3;
    private static final int KINDS = 4;
    private static final int UNKNOWN_KIND = 3;

    // What can stand before a piece: a piece of one of the four kinds, or nothing. "Nothing" has a row of
    // link costs too, which stays 0, so that the first piece needs no case of its own.
    private static final int NOTHING_BEFORE = 4;
    private static final int BEFORES = 5;
    private static final int LINKS = 20;

    // A state is a place in the text (0 to 12) together with what stands before it.
    private static final int STATES = 65;
    private static final int ABOVE_ALL_SUMS = 3000;

    private final int penalty;

    private final int[] wordCode = new int[MOST_WORDS];
    private final int[] wordCost = new int[MOST_WORDS];
    private final int[] wordKind = new int[MOST_WORDS];
    private int words = 0;

    private int spellingCode = EMPTY_CODE;
    private int spellingLength = 0;

    private final int[] linkCost = new int[LINKS];

    private final int[] text = new int[MOST_TYPED];
    private int textLength = 0;

    // For each state, of the best cuts of the text from there to its end: their cost, their number, and
    // end and kind of the first piece of the chosen one. Filled anew by cutText before each use.
    private final int[] restCost = new int[STATES];
    private final int[] restWays = new int[STATES];
    private final int[] chosenEnd = new int[STATES];
    private final int[] chosenKind = new int[STATES];

    public WordLattice(int penalty) {
        this.penalty = penalty < 1 ? 1 : penalty > MOST_COST ? MOST_COST : penalty;
    }

    public int spell(int letter) {
        if (spellingLength >= MOST_SPELLED) {
            return -1;
        }
        spellingCode = withLetter(spellingCode, letter & LETTER_MASK);
        spellingLength++;
        return spellingLength;
    }

    public int learn(int cost, int kind) {
        if (spellingLength == 0 || !isCost(cost) || kind < 0 || kind >= WORD_KINDS) {
            return -1;
        }
        int word = find(spellingCode);
        if (word < 0) {
            if (words >= MOST_WORDS) {
                return -1;
            }
            word = words;
            words++;
        }
        wordCode[word] = spellingCode;
        wordCost[word] = cost;
        wordKind[word] = kind;
        clearSpelling();
        return words;
    }

    public int forget() {
        int word = find(spellingCode);
        if (word < 0) {
            return -1;
        }
        // The order of the words means nothing, so the last one may fill the gap.
        words--;
        wordCode[word] = wordCode[words];
        wordCost[word] = wordCost[words];
        wordKind[word] = wordKind[words];
        clearSpelling();
        return words;
    }

    public int lookUp() {
        int word = find(spellingCode);
        return word < 0 ? -1 : wordCost[word];
    }

    public void clearSpelling() {
        spellingCode = EMPTY_CODE;
        spellingLength = 0;
    }

    public int link(int k, int l, int cost) {
        if (!isKind(k) || !isKind(l) || !isCost(cost)) {
            return -1;
        }
        int place = k * KINDS + l;
        int before = linkCost[place];
        linkCost[place] = cost;
        return before;
    }

    public int type(int letter) {
        if (textLength >= MOST_TYPED) {
            return -1;
        }
        text[textLength] = letter & LETTER_MASK;
        textLength++;
        return textLength;
    }

    public void clearText() {
        textLength = 0;
    }

    public int cost() {
        cutText();
        return restCost[NOTHING_BEFORE];
    }

    public int ways() {
        cutText();
        return restWays[NOTHING_BEFORE];
    }

    public int start(int piece) {
        if (piece < 0 || piece > textLength) {
            return -1;
        }
        cutText();
        int place = 0;
        int before = NOTHING_BEFORE;
        for (int passed = 0; passed < piece; passed++) {
            if (place >= textLength) {
                return -1;
            }
            int state = place * BEFORES + before;
            place = chosenEnd[state];
            before = chosenKind[state];
        }
        return place;
    }

    public int beginning() {
        int count = 0;
        for (int word = 0; word < words; word++) {
            if (beginsWithSpelling(wordCode[word])) {
                count++;
            }
        }
        return count;
    }

    private static boolean isCost(int cost) {
        return cost >= 0 && cost <= MOST_COST;
    }

    private static boolean isKind(int kind) {
        return kind >= 0 && kind < KINDS;
    }

    private static int withLetter(int code, int letter) {
        return (code << LETTER_BITS) | letter;
    }

    /** The index of the word with this code, or -1. The empty row is never found: it is never learnt. */
    private int find(int code) {
        for (int word = 0; word < words; word++) {
            if (wordCode[word] == code) {
                return word;
            }
        }
        return -1;
    }

    private boolean beginsWithSpelling(int code) {
        int front = code;
        for (int dropped = 0; dropped <= MOST_SPELLED; dropped++) {
            if (front == spellingCode) {
                return true;
            }
            front = front >> LETTER_BITS;
        }
        return false;
    }

    /** Goes from the end of the text to its front, since a state needs the states behind it. */
    private void cutText() {
        for (int before = 0; before < BEFORES; before++) {
            int state = textLength * BEFORES + before;
            restCost[state] = 0;
            restWays[state] = 1;
        }
        for (int place = textLength - 1; place >= 0; place--) {
            cutFrom(place);
        }
    }

    private void cutFrom(int place) {
        for (int before = 0; before < BEFORES; before++) {
            restCost[place * BEFORES + before] = ABOVE_ALL_SUMS;
        }
        int code = EMPTY_CODE;
        for (int length = 1; length <= MOST_SPELLED && place + length <= textLength; length++) {
            int end = place + length;
            code = withLetter(code, text[end - 1]);
            int word = find(code);
            if (word >= 0) {
                offerPiece(place, end, wordCost[word], wordKind[word]);
            } else if (length == 1) {
                offerPiece(place, end, penalty, UNKNOWN_KIND);
            }
        }
    }

    /** Pieces come in from short to long, so of equally cheap ones the last is the longest. */
    private void offerPiece(int place, int end, int cost, int kind) {
        int behind = end * BEFORES + kind;
        for (int before = 0; before < BEFORES; before++) {
            int state = place * BEFORES + before;
            int sum = linkCost[before * KINDS + kind] + cost + restCost[behind];
            if (sum > restCost[state]) {
                continue;
            }
            restWays[state] = sum < restCost[state] ? restWays[behind] : restWays[state] + restWays[behind];
            restCost[state] = sum;
            chosenEnd[state] = end;
            chosenKind[state] = kind;
        }
    }
}
