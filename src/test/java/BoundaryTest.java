import java.lang.reflect.InvocationTargetException;
import java.lang.reflect.Method;
import java.util.ArrayList;
import java.util.Comparator;
import java.util.List;

/**
 * Each sentence of the document that names a boundary has a test here, named after its section and the case: the
 * case itself, the last value before it, the first value behind it, and the least and the greatest int where an
 * argument is a number. That a refused call changes nothing is looked at more closely in RefusalTest.
 *
 * Every method with an underscore in its name is a test; none needs to be listed, so none can be forgotten.
 */
public final class BoundaryTest {
    private static final int LEAST = Integer.MIN_VALUE;
    private static final int GREATEST = Integer.MAX_VALUE;

    private static String test = "";
    private static int wrong = 0;

    public static void main(String[] args) throws IllegalAccessException {
        List<Method> tests = new ArrayList<>();
        for (Method m : BoundaryTest.class.getDeclaredMethods()) {
            if (m.getName().contains("_") && !m.isSynthetic()) {
                tests.add(m);
            }
        }
        tests.sort(Comparator.comparing(Method::getName));
        for (Method m : tests) {
            run(m);
        }
        System.out.println(tests.size() + " tests, " + (wrong == 0 ? "all answers are as due" : wrong + " answers are not as due"));
        if (wrong != 0 || tests.isEmpty()) {
            System.exit(1);
        }
    }

    private static void run(Method m) throws IllegalAccessException {
        test = m.getName();
        try {
            m.invoke(null);
        } catch (InvocationTargetException e) {
            wrong++;
            System.out.println(test + ": ended with " + e.getCause());
        }
    }

    private static void due(String call, int got, int want) {
        if (got != want) {
            wrong++;
            System.out.println(test + ": " + call + " answered " + got + ", due is " + want);
        }
    }

    private static void spellAll(WordLattice x, String letters) {
        x.clearSpelling();
        for (int i = 0; i < letters.length(); i++) {
            x.spell(letters.charAt(i) - '0');
        }
    }

    private static void typeAll(WordLattice x, String letters) {
        x.clearText();
        for (int i = 0; i < letters.length(); i++) {
            x.type(letters.charAt(i) - '0');
        }
    }

    private static int learn(WordLattice x, String letters, int cost, int kind) {
        spellAll(x, letters);
        return x.learn(cost, kind);
    }

    private static int forget(WordLattice x, String letters) {
        spellAll(x, letters);
        return x.forget();
    }

    private static int lookUp(WordLattice x, String letters) {
        spellAll(x, letters);
        return x.lookUp();
    }

    private static int beginning(WordLattice x, String letters) {
        spellAll(x, letters);
        return x.beginning();
    }

    private static int costOf(WordLattice x, String letters) {
        typeAll(x, letters);
        return x.cost();
    }

    /** The pieces of the chosen cut begin at these places; the last one is the length of the text. */
    private static void dueStarts(WordLattice x, int... places) {
        for (int piece = 0; piece < places.length; piece++) {
            due("start(" + piece + ")", x.start(piece), places[piece]);
        }
        due("start(" + places.length + ")", x.start(places.length), -1);
    }

    private static String pair(int i) {
        return "" + i / 4 + i % 4;
    }

    /** As many of the 16 words of two letters as are asked for, number i with cost i + 20 and kind i % 3. */
    private static WordLattice withPairs(int words) {
        WordLattice x = new WordLattice(50);
        for (int i = 0; i < words; i++) {
            learn(x, pair(i), i + 20, i % 3);
        }
        return x;
    }

    /** The four words of one letter; the cost of letter i is i + 10. */
    private static WordLattice withSingles() {
        WordLattice x = new WordLattice(50);
        for (int i = 0; i < 4; i++) {
            learn(x, "" + i, i + 10, 0);
        }
        return x;
    }

    private static WordLattice withLinks() {
        WordLattice x = new WordLattice(50);
        for (int k = 0; k < 4; k++) {
            for (int l = 0; l < 4; l++) {
                x.link(k, l, 10 * k + l + 1);
            }
        }
        return x;
    }

    // What it is: at most 512 calls

    /** An object with 510 calls behind it. Its spelling and its one word are 0, its text is 01. */
    private static WordLattice after510Calls() {
        WordLattice x = new WordLattice(5);
        x.spell(0);
        x.learn(2, 1);
        x.type(0);
        x.type(1);
        x.link(1, 3, 7);
        x.spell(0);
        for (int calls = 6; calls < 510; calls++) {
            x.cost();
        }
        return x;
    }

    private static void whatItIs_calls511And512AreAsDueForEachMethod() {
        WordLattice x = after510Calls();
        due("spell as call 511", x.spell(1), 2);
        due("spell as call 512", x.spell(1), 3);
        x = after510Calls();
        due("learn as call 511", x.learn(9, 2), 1);
        due("learn as call 512", x.learn(9, 2), -1);
        x = after510Calls();
        due("forget as call 511", x.forget(), 0);
        due("forget as call 512", x.forget(), -1);
        x = after510Calls();
        due("lookUp as call 511", x.lookUp(), 2);
        due("lookUp as call 512", x.lookUp(), 2);
        x = after510Calls();
        x.clearSpelling();
        due("spell behind clearSpelling", x.spell(3), 1);
        x = after510Calls();
        due("link as call 511", x.link(1, 3, 8), 7);
        due("link as call 512", x.link(1, 3, 9), 8);
        x = after510Calls();
        due("type as call 511", x.type(2), 3);
        due("type as call 512", x.type(2), 4);
        x = after510Calls();
        x.clearText();
        due("cost behind clearText", x.cost(), 0);
        x = after510Calls();
        due("cost as call 511", x.cost(), 14);
        due("cost as call 512", x.cost(), 14);
        x = after510Calls();
        due("ways as call 511", x.ways(), 1);
        due("ways as call 512", x.ways(), 1);
        x = after510Calls();
        due("start as call 511", x.start(1), 1);
        due("start as call 512", x.start(2), 2);
        x = after510Calls();
        due("beginning as call 511", x.beginning(), 1);
        due("beginning as call 512", x.beginning(), 1);
    }

    private static void whatItIs_512CallsThatLearnAndForget() {
        WordLattice x = new WordLattice(5);
        for (int round = 0; round < 128; round++) {
            due("spell in round " + round, x.spell(round), 1);
            due("learn in round " + round, x.learn(round % 100, round % 3), 1);
            due("spell again in round " + round, x.spell(round), 1);
            due("forget in round " + round, x.forget(), 0);
        }
    }

    private static void whatItIs_512CallsThatType() {
        WordLattice x = new WordLattice(5);
        for (int round = 0; round < 36; round++) {
            for (int letters = 1; letters <= 12; letters++) {
                due("type in round " + round, x.type(letters), letters);
            }
            due("type of a 13th letter in round " + round, x.type(0), -1);
            x.clearText();
        }
        // 36 rounds of 14 calls are 504.
        for (int letters = 1; letters <= 7; letters++) {
            x.type(0);
        }
        due("cost as call 512", x.cost(), 35);
    }

    private static void whatItIs_512CallsThatLink() {
        WordLattice x = new WordLattice(5);
        for (int call = 0; call < 512; call++) {
            due("link as call " + (call + 1), x.link(1, 2, call % 100), call == 0 ? 0 : (call - 1) % 100);
        }
    }

    /** What call 513 answers is free, but it has to answer. */
    private static void whatItIs_call513AndLaterOnesEnd() {
        WordLattice x = after510Calls();
        for (int call = 511; call < 3000; call++) {
            x.spell(call);
            x.learn(call % 100, call % 3);
            x.type(call);
            x.link(call % 4, call % 3, call % 100);
            x.cost();
            x.ways();
            x.start(call % 13);
            x.lookUp();
            x.beginning();
            if (call % 7 == 0) {
                x.forget();
                x.clearSpelling();
                x.clearText();
            }
        }
    }

    // Terms: letters, words, dictionary

    private static void terms_lettersAre0To3() {
        WordLattice x = withSingles();
        for (int letter = 0; letter <= 3; letter++) {
            due("lookUp of " + letter, lookUp(x, "" + letter), 10 + letter);
            due("cost of " + letter, costOf(x, "" + letter), 10 + letter);
        }
        due("number of words of one letter", beginning(x, ""), 4);
    }

    private static void terms_noWordOfNoLetters() {
        WordLattice x = new WordLattice(50);
        due("learn of no letters", x.learn(1, 0), -1);
        due("words then", x.beginning(), 0);
    }

    private static void terms_wordOfOneLetter() {
        WordLattice x = new WordLattice(50);
        due("learn of one letter", learn(x, "3", 1, 0), 1);
        due("lookUp of it", lookUp(x, "3"), 1);
        due("cost of it", costOf(x, "3"), 1);
    }

    private static void terms_wordsOfTwoToFourLetters() {
        WordLattice x = new WordLattice(50);
        for (int letters = 2; letters <= 4; letters++) {
            String word = "3210".substring(0, letters);
            due("learn of " + word, learn(x, word, letters, 0), letters - 1);
            due("lookUp of " + word, lookUp(x, word), letters);
            due("cost of " + word, costOf(x, word), letters);
        }
    }

    private static void terms_wordOfFiveLetters() {
        WordLattice x = new WordLattice(50);
        due("learn of five letters", learn(x, "32103", 1, 0), 1);
        due("lookUp of it", lookUp(x, "32103"), 1);
        due("cost of it", costOf(x, "32103"), 1);
        dueStarts(x, 0, 5);
    }

    private static void terms_noWordOfSixLetters() {
        WordLattice x = new WordLattice(50);
        spellAll(x, "32103");
        due("spell of a sixth letter", x.spell(2), -1);
        due("learn then", x.learn(1, 0), 1);
        due("lookUp of the first five letters", lookUp(x, "32103"), 1);
        due("cost of the six letters", costOf(x, "321032"), 51);
        dueStarts(x, 0, 5, 6);
    }

    private static void terms_wordCostsAre0To99() {
        WordLattice x = new WordLattice(50);
        int[] costs = {0, 1, 98, 99};
        for (int cost : costs) {
            learn(x, "01", cost, 0);
            due("lookUp of a word of cost " + cost, lookUp(x, "01"), cost);
            due("cost of the word of cost " + cost, costOf(x, "01"), cost);
        }
    }

    private static void terms_wordKindsAre0To2() {
        WordLattice x = withLinks();
        for (int kind = 0; kind <= 2; kind++) {
            learn(x, "01", 4, kind);
            // The unknown 2 behind the word shows the word's kind by the link cost from it to kind 3.
            due("cost with kind " + kind, costOf(x, "012"), 4 + 10 * kind + 4 + 50);
        }
    }

    private static void terms_dictionaryHoldsSixteenWords() {
        WordLattice x = withPairs(15);
        due("words before", beginning(x, ""), 15);
        due("the 16th word", learn(x, "33", 35, 0), 16);
        due("a 17th word", learn(x, "0", 36, 0), -1);
        due("words then", beginning(x, ""), 16);
        for (int i = 0; i < 16; i++) {
            due("lookUp of " + pair(i), lookUp(x, pair(i)), i + 20);
        }
        due("lookUp of the 17th", lookUp(x, "0"), -1);
    }

    private static void terms_noTwoWordsHaveTheSameLetters() {
        WordLattice x = new WordLattice(50);
        learn(x, "01", 5, 0);
        due("learn of the same letters", learn(x, "01", 5, 0), 1);
        due("words then", beginning(x, ""), 1);
        due("ways with one word", waysOf(x, "01"), 1);
        due("forget of it", forget(x, "01"), 0);
        due("lookUp of it then", lookUp(x, "01"), -1);
    }

    private static int waysOf(WordLattice x, String letters) {
        typeAll(x, letters);
        return x.ways();
    }

    private static void terms_rowsOfZerosOfDifferentLengthAreDifferentWords() {
        WordLattice x = new WordLattice(50);
        String zeros = "";
        for (int letters = 1; letters <= 5; letters++) {
            zeros += "0";
            due("learn of " + zeros, learn(x, zeros, letters, 0), letters);
        }
        for (int letters = 1; letters <= 5; letters++) {
            due("lookUp of " + letters + " zeros", lookUp(x, "00000".substring(0, letters)), letters);
        }
    }

    // Terms: text, spelling, links, the start

    private static void terms_textOfNoLettersToTwelve() {
        WordLattice x = new WordLattice(1);
        due("cost of no letters", x.cost(), 0);
        for (int letters = 1; letters <= 12; letters++) {
            due("type of letter " + letters, x.type(0), letters);
            due("cost of " + letters + " letters", x.cost(), letters);
        }
        due("type of a 13th letter", x.type(0), -1);
        due("cost then", x.cost(), 12);
    }

    private static void terms_spellingOfNoLettersToFive() {
        WordLattice x = new WordLattice(1);
        due("beginning with no letters", x.beginning(), 0);
        for (int letters = 1; letters <= 5; letters++) {
            due("spell of letter " + letters, x.spell(0), letters);
        }
        due("spell of a sixth letter", x.spell(0), -1);
    }

    private static void terms_linkKindsAre0To3() {
        WordLattice x = withLinks();
        for (int k = 0; k < 4; k++) {
            for (int l = 0; l < 4; l++) {
                due("link(" + k + ", " + l + ")", x.link(k, l, 0), 10 * k + l + 1);
            }
        }
        due("link(-1, 0)", x.link(-1, 0, 0), -1);
        due("link(0, -1)", x.link(0, -1, 0), -1);
        due("link(4, 3)", x.link(4, 3, 0), -1);
        due("link(3, 4)", x.link(3, 4, 0), -1);
    }

    private static void terms_linkCostsAre0To99() {
        WordLattice x = new WordLattice(1);
        int[] costs = {0, 1, 98, 99};
        for (int cost : costs) {
            x.link(3, 3, cost);
            due("cost with link cost " + cost, costOf(x, "00"), 2 + cost);
        }
    }

    private static void terms_linkCostsAre0AtTheStart() {
        WordLattice x = new WordLattice(1);
        for (int k = 0; k < 4; k++) {
            for (int l = 0; l < 4; l++) {
                due("link(" + k + ", " + l + ")", x.link(k, l, 99), 0);
            }
        }
    }

    private static void terms_linkCostsOf0CountAtTheStart() {
        WordLattice x = new WordLattice(1);
        for (int kind = 0; kind < 3; kind++) {
            learn(x, "" + kind, 0, kind);
        }
        // Between them, the two texts have each of the 16 pairs of kinds.
        due("cost of the first text", costOf(x, "001122330213"), 3);
        due("cost of the second text", costOf(x, "2031032"), 2);
    }

    private static void terms_dictionaryIsEmptyAtTheStart() {
        WordLattice x = new WordLattice(1);
        due("beginning", x.beginning(), 0);
        for (int letter = 0; letter < 4; letter++) {
            due("lookUp of " + letter, lookUp(x, "" + letter), -1);
            due("beginning with " + letter, x.beginning(), 0);
        }
        due("the first word", learn(x, "0", 1, 0), 1);
    }

    private static void terms_textIsEmptyAtTheStart() {
        WordLattice x = new WordLattice(1);
        due("cost", x.cost(), 0);
        due("ways", x.ways(), 1);
        dueStarts(x, 0);
        due("the first letter", x.type(0), 1);
    }

    private static void terms_spellingIsEmptyAtTheStart() {
        WordLattice x = new WordLattice(1);
        due("lookUp", x.lookUp(), -1);
        due("learn", x.learn(1, 0), -1);
        due("forget", x.forget(), -1);
        due("the first letter", x.spell(0), 1);
    }

    // Terms: pieces and cuts

    private static void terms_emptyTextHasOneCutOfNoPiecesAndCost0() {
        WordLattice x = withLinks();
        learn(x, "0", 7, 0);
        due("cost", x.cost(), 0);
        due("ways", x.ways(), 1);
        due("start(0)", x.start(0), 0);
        due("start(1)", x.start(1), -1);
    }

    private static void terms_emptyTextAfterATextHasOneCut() {
        WordLattice x = withLinks();
        typeAll(x, "012301230123");
        due("start(12) before", x.start(12), 12);
        x.clearText();
        due("cost", x.cost(), 0);
        due("ways", x.ways(), 1);
        due("start(0)", x.start(0), 0);
        due("start(1)", x.start(1), -1);
    }

    private static void terms_singleLetterThatIsNoWordCostsThePenalty() {
        WordLattice x = new WordLattice(37);
        learn(x, "00", 5, 0);
        learn(x, "1", 6, 0);
        due("cost of the unknown 0", costOf(x, "0"), 37);
        due("cost of the unknown 2", costOf(x, "2"), 37);
        due("cost of the word 1", costOf(x, "1"), 6);
    }

    private static void terms_singleLetterThatIsNoWordHasKind3() {
        WordLattice x = withLinks();
        due("cost of two unknown pieces", costOf(x, "00"), 50 + 34 + 50);
        for (int kind = 0; kind < 3; kind++) {
            learn(x, "1", 6, kind);
            due("cost of unknown, then kind " + kind, costOf(x, "01"), 50 + 30 + kind + 1 + 6);
            due("cost of kind " + kind + ", then unknown", costOf(x, "10"), 6 + 10 * kind + 4 + 50);
        }
    }

    private static void terms_singleLetterThatIsAWordIsNoUnknownPiece() {
        WordLattice x = new WordLattice(1);
        x.link(3, 3, 30);
        learn(x, "0", 99, 0);
        due("cost of a dear word of one letter", costOf(x, "0"), 99);
        due("ways", x.ways(), 1);
        learn(x, "0", 1, 0);
        due("cost of a word as dear as the penalty", costOf(x, "0"), 1);
        due("ways then", x.ways(), 1);
        due("cost of it twice", costOf(x, "00"), 2);
        learn(x, "0", 0, 0);
        due("cost of a word of cost 0", costOf(x, "0"), 0);
        due("unknown once it is forgotten", forget(x, "0"), 0);
        due("cost then", costOf(x, "0"), 1);
    }

    private static void terms_twoLettersThatAreNoWordAreNoPiece() {
        WordLattice x = new WordLattice(10);
        learn(x, "012", 1, 0);
        due("cost of a word's first two letters", costOf(x, "01"), 20);
        due("cost of a word's last two letters", costOf(x, "12"), 20);
        dueStarts(x, 0, 1, 2);
        due("cost of the word backwards", costOf(x, "210"), 30);
        due("cost of the word", costOf(x, "012"), 1);
    }

    private static void terms_pieceMayBeTheWholeText() {
        WordLattice x = new WordLattice(10);
        for (int letters = 1; letters <= 5; letters++) {
            String word = "01230".substring(0, letters);
            learn(x, word, 9, 0);
            due("cost of " + word, costOf(x, word), 9);
            dueStarts(x, 0, letters);
            forget(x, word);
        }
    }

    private static void terms_pieceEndsWithTheText() {
        WordLattice x = new WordLattice(10);
        learn(x, "01230", 1, 0);
        due("cost of a text that ends within the word", costOf(x, "0123"), 40);
        due("cost of the word", costOf(x, "01230"), 1);
        // A letter of the longer text before would make the word whole.
        due("cost of a text that ends within the word again", costOf(x, "0123"), 40);
    }

    private static void terms_wordAtTheVeryEndOfTwelveLetters() {
        WordLattice x = new WordLattice(10);
        learn(x, "12301", 1, 0);
        due("cost with the word in the last five places", costOf(x, "000000012301"), 71);
        dueStarts(x, 0, 1, 2, 3, 4, 5, 6, 7, 12);
        due("cost with the word one place before", costOf(x, "000000123010"), 71);
        dueStarts(x, 0, 1, 2, 3, 4, 5, 6, 11, 12);
    }

    private static void terms_onePieceHasNoLink() {
        WordLattice x = withLinks();
        due("cost of one unknown piece", costOf(x, "0"), 50);
        for (int kind = 0; kind < 3; kind++) {
            learn(x, "0", 8, kind);
            due("cost of one piece of kind " + kind, costOf(x, "0"), 8);
        }
    }

    private static void terms_twoPiecesHaveOneLink() {
        WordLattice x = withLinks();
        for (int k = 0; k < 4; k++) {
            for (int l = 0; l < 4; l++) {
                forgetIfThere(x, "0");
                forgetIfThere(x, "1");
                int first = k == 3 ? 50 : learnt(x, "0", 6, k);
                int second = l == 3 ? 50 : learnt(x, "1", 7, l);
                due("cost of kind " + k + ", then kind " + l, costOf(x, "01"), first + 10 * k + l + 1 + second);
            }
        }
    }

    private static void forgetIfThere(WordLattice x, String letters) {
        spellAll(x, letters);
        x.forget();
    }

    private static int learnt(WordLattice x, String letters, int cost, int kind) {
        learn(x, letters, cost, kind);
        return cost;
    }

    private static void terms_threePiecesHaveTwoLinks() {
        WordLattice x = withLinks();
        learn(x, "0", 6, 0);
        learn(x, "1", 7, 1);
        learn(x, "2", 8, 2);
        // 0 to 1 costs 2 and 1 to 2 costs 13; 0 and 2 don't follow each other.
        due("cost", costOf(x, "012"), 6 + 2 + 7 + 13 + 8);
    }

    private static void terms_thereAlwaysIsAnAllowedCut() {
        WordLattice x = new WordLattice(99);
        for (int k = 0; k < 4; k++) {
            x.link(k, 3, 99);
            x.link(3, k, 99);
        }
        learn(x, "0123", 99, 0);
        String[] texts = {"1", "01", "012", "1230", "30123", "333333333333", "012012012012"};
        int[] costs = {99, 297, 495, 693, 297, 2277, 2277};
        for (int i = 0; i < texts.length; i++) {
            due("cost of " + texts[i], costOf(x, texts[i]), costs[i]);
            due("ways of " + texts[i], x.ways(), 1);
        }
    }

    private static void terms_greatestSumIsBelow3000() {
        WordLattice x = new WordLattice(GREATEST);
        x.link(3, 3, 99);
        due("cost of twelve unknown pieces", costOf(x, "000000000000"), 2277);
        learn(x, "0", 99, 2);
        x.link(2, 2, 98);
        due("cost of twelve words", x.cost(), 12 * 99 + 11 * 98);
        x.link(2, 2, 99);
        due("cost of twelve words, all at their dearest", x.cost(), 2277);
        due("ways", x.ways(), 1);
        dueStarts(x, 0, 1, 2, 3, 4, 5, 6, 7, 8, 9, 10, 11, 12);
    }

    // Terms: best cuts and the chosen cut

    private static void terms_bestCutsHaveTheLeastCost() {
        WordLattice x = new WordLattice(10);
        int[] wordCosts = {19, 20, 21};
        int[] costs = {19, 20, 20};
        int[] ways = {1, 2, 1};
        for (int i = 0; i < 3; i++) {
            learn(x, "01", wordCosts[i], 0);
            due("cost with a word of cost " + wordCosts[i], costOf(x, "01"), costs[i]);
            due("ways with a word of cost " + wordCosts[i], x.ways(), ways[i]);
        }
    }

    private static void terms_linkCostDecidesWhichCutsAreBest() {
        WordLattice x = new WordLattice(10);
        learn(x, "01", 25, 0);
        int[] links = {4, 5, 6};
        int[] costs = {24, 25, 25};
        int[] ways = {1, 2, 1};
        int[] secondStarts = {1, 2, 2};
        for (int i = 0; i < 3; i++) {
            x.link(3, 3, links[i]);
            due("cost with link cost " + links[i], costOf(x, "01"), costs[i]);
            due("ways with link cost " + links[i], x.ways(), ways[i]);
            due("start(1) with link cost " + links[i], x.start(1), secondStarts[i]);
        }
    }

    private static void terms_chosenCutIsABestOneBeforeItIsALongOne() {
        WordLattice x = new WordLattice(10);
        typeAll(x, "01");
        learn(x, "01", 21, 0);
        dueStarts(x, 0, 1, 2);
        learn(x, "01", 20, 0);
        dueStarts(x, 0, 2);
        learn(x, "01", 19, 0);
        dueStarts(x, 0, 2);
    }

    private static void terms_chosenCutHasTheLongestFirstPiece() {
        WordLattice x = new WordLattice(10);
        typeAll(x, "012301230123");
        dueStarts(x, 0, 1, 2, 3, 4, 5, 6, 7, 8, 9, 10, 11, 12);
        for (int letters = 2; letters <= 5; letters++) {
            learn(x, "01230".substring(0, letters), 10 * letters, 0);
            due("start(1) with words of up to " + letters + " letters", x.start(1), letters);
            due("cost with words of up to " + letters + " letters", x.cost(), 120);
        }
    }

    private static void terms_longestFirstPieceComesBeforeALongerSecondOne() {
        WordLattice x = new WordLattice(10);
        learn(x, "01", 20, 0);
        learn(x, "1230", 40, 1);
        typeAll(x, "01230");
        due("ways", x.ways(), 3);
        dueStarts(x, 0, 2, 3, 4, 5);
    }

    private static void terms_chosenCutHasTheLongestSecondPiece() {
        WordLattice x = new WordLattice(10);
        typeAll(x, "301230");
        for (int letters = 2; letters <= 5; letters++) {
            learn(x, "01230".substring(0, letters), 10 * letters, 0);
            due("start(1) with words of up to " + letters + " letters", x.start(1), 1);
            due("start(2) with words of up to " + letters + " letters", x.start(2), 1 + letters);
        }
    }

    private static void terms_chosenCutHasTheLongestThirdPieceBehindEqualOnes() {
        WordLattice x = new WordLattice(10);
        learn(x, "01", 20, 0);
        learn(x, "23", 20, 1);
        learn(x, "230", 30, 2);
        typeAll(x, "010123010");
        dueStarts(x, 0, 2, 4, 7, 8, 9);
    }

    private static void terms_chosenCutHasTheLongestEleventhPiece() {
        WordLattice x = new WordLattice(10);
        typeAll(x, "111111111100");
        learn(x, "00", 20, 0);
        due("ways", x.ways(), 2);
        dueStarts(x, 0, 1, 2, 3, 4, 5, 6, 7, 8, 9, 10, 12);
        learn(x, "00", 21, 0);
        due("ways if it is too dear", x.ways(), 1);
        dueStarts(x, 0, 1, 2, 3, 4, 5, 6, 7, 8, 9, 10, 11, 12);
    }

    private static void terms_longPieceIsChosenOnlyIfItsLinkKeepsTheCutABestOne() {
        WordLattice x = new WordLattice(10);
        learn(x, "0", 10, 0);
        learn(x, "12", 20, 1);
        learn(x, "1", 10, 2);
        learn(x, "2", 10, 2);
        typeAll(x, "012");
        dueStarts(x, 0, 1, 3);
        x.link(0, 1, 1);
        dueStarts(x, 0, 1, 2, 3);
        typeAll(x, "12");
        dueStarts(x, 0, 2);
    }

    // Promise 1

    private static int penaltyKept(int penalty) {
        WordLattice x = new WordLattice(penalty);
        x.type(0);
        return x.cost();
    }

    private static void promise1_penaltyLessThan1Becomes1() {
        due("penalty of the least int", penaltyKept(LEAST), 1);
        due("penalty -99", penaltyKept(-99), 1);
        due("penalty -1", penaltyKept(-1), 1);
        due("penalty 0", penaltyKept(0), 1);
    }

    private static void promise1_penaltyFrom1To99IsKept() {
        for (int penalty = 1; penalty <= 99; penalty++) {
            due("penalty " + penalty, penaltyKept(penalty), penalty);
        }
    }

    private static void promise1_penaltyMoreThan99Becomes99() {
        due("penalty 100", penaltyKept(100), 99);
        due("penalty 101", penaltyKept(101), 99);
        due("penalty 256", penaltyKept(256), 99);
        due("penalty of the greatest int", penaltyKept(GREATEST), 99);
    }

    // Promise 2

    private static final int[] LETTERS_GIVEN = {LEAST, LEAST + 1, LEAST + 2, LEAST + 3, -5, -4, -3, -2, -1, 0, 1, 2, 3,
        4, 5, 6, 7, 8, 255, 256, GREATEST - 3, GREATEST - 2, GREATEST - 1, GREATEST};
    private static final int[] LETTERS_TAKEN = {0, 1, 2, 3, 3, 0, 1, 2, 3, 0, 1, 2, 3,
        0, 1, 2, 3, 0, 3, 0, 0, 1, 2, 3};

    private static void promise2_letterWrapsAround() {
        WordLattice x = withSingles();
        for (int i = 0; i < LETTERS_GIVEN.length; i++) {
            x.clearSpelling();
            due("spell(" + LETTERS_GIVEN[i] + ")", x.spell(LETTERS_GIVEN[i]), 1);
            due("lookUp then", x.lookUp(), 10 + LETTERS_TAKEN[i]);
        }
    }

    private static void promise2_letterWrapsAroundInTheFifthPlace() {
        for (int i = 0; i < LETTERS_GIVEN.length; i++) {
            WordLattice x = new WordLattice(1);
            learn(x, "0000" + LETTERS_TAKEN[i], 42, 0);
            spellAll(x, "0000");
            due("spell(" + LETTERS_GIVEN[i] + ")", x.spell(LETTERS_GIVEN[i]), 5);
            due("lookUp then", x.lookUp(), 42);
        }
    }

    private static void promise2_lettersAreAddedAtTheEnd() {
        WordLattice x = new WordLattice(1);
        learn(x, "01", 11, 0);
        learn(x, "10", 12, 0);
        x.spell(0);
        x.spell(1);
        due("lookUp of 0, then 1", x.lookUp(), 11);
    }

    private static void promise2_answersTheNumberOfLetters() {
        WordLattice x = new WordLattice(1);
        for (int letters = 1; letters <= 5; letters++) {
            due("spell of letter " + letters, x.spell(letters), letters);
        }
    }

    private static void promise2_sixthLetterIsRefused() {
        int[] given = {LEAST, -1, 0, 1, 2, 3, 4, GREATEST};
        for (int letter : given) {
            WordLattice x = new WordLattice(1);
            learn(x, "12301", 42, 0);
            spellAll(x, "1230");
            due("spell of the fifth letter", x.spell(1), 5);
            due("spell(" + letter + ") as the sixth", x.spell(letter), -1);
            due("spell(" + letter + ") as the seventh", x.spell(letter), -1);
            due("lookUp then", x.lookUp(), 42);
        }
    }

    private static void promise2_emptiedSpellingTakesFiveLettersAgain() {
        WordLattice x = new WordLattice(1);
        for (int emptied = 0; emptied < 3; emptied++) {
            for (int letters = 1; letters <= 5; letters++) {
                due("spell of letter " + letters, x.spell(0), letters);
            }
            due("spell of a sixth letter", x.spell(0), -1);
            if (emptied == 0) {
                x.learn(1, 0);
            } else if (emptied == 1) {
                x.forget();
            }
        }
        x.clearSpelling();
        due("spell behind clearSpelling", x.spell(0), 1);
    }

    // Promise 3

    private static void promise3_answersTheNumberOfWords() {
        WordLattice x = new WordLattice(1);
        for (int i = 0; i < 16; i++) {
            due("learn of word " + (i + 1), learn(x, pair(i), 1, 0), i + 1);
            due("learn of it once more", learn(x, pair(i), 2, 1), i + 1);
        }
    }

    private static void promise3_emptySpellingIsRefused() {
        WordLattice x = new WordLattice(1);
        due("learn of no letters", x.learn(0, 0), -1);
        due("learn of one letter", learn(x, "0", 0, 0), 1);
        due("learn of no letters beside a word", x.learn(99, 2), -1);
        due("lookUp of the word", lookUp(x, "0"), 0);
        due("words then", beginning(x, ""), 1);
    }

    private static void dueRefusedCost(int cost) {
        WordLattice x = new WordLattice(1);
        spellAll(x, "01");
        due("learn(" + cost + ", 0) of a new word", x.learn(cost, 0), -1);
        due("lookUp then", x.lookUp(), -1);
        due("learn(5, 0)", x.learn(5, 0), 1);
        spellAll(x, "01");
        due("learn(" + cost + ", 2) of a word that is there", x.learn(cost, 2), -1);
        due("lookUp then", x.lookUp(), 5);
    }

    private static void dueTakenCost(int cost) {
        WordLattice x = new WordLattice(1);
        due("learn(" + cost + ", 0) of a new word", learn(x, "01", cost, 0), 1);
        due("lookUp then", lookUp(x, "01"), cost);
        learn(x, "01", 5, 0);
        due("learn(" + cost + ", 2) of a word that is there", learn(x, "01", cost, 2), 1);
        due("lookUp then", lookUp(x, "01"), cost);
    }

    private static void promise3_costBelow0IsRefused() {
        dueRefusedCost(LEAST);
        dueRefusedCost(-100);
        dueRefusedCost(-1);
    }

    private static void promise3_costFrom0To99IsTaken() {
        for (int cost = 0; cost <= 99; cost++) {
            dueTakenCost(cost);
        }
    }

    private static void promise3_costAbove99IsRefused() {
        dueRefusedCost(100);
        dueRefusedCost(256);
        dueRefusedCost(GREATEST);
    }

    private static void dueRefusedKind(int kind) {
        WordLattice x = withLinks();
        spellAll(x, "01");
        due("learn(5, " + kind + ") of a new word", x.learn(5, kind), -1);
        due("lookUp then", x.lookUp(), -1);
        due("learn(5, 1)", x.learn(5, 1), 1);
        spellAll(x, "01");
        due("learn(6, " + kind + ") of a word that is there", x.learn(6, kind), -1);
        due("lookUp then", x.lookUp(), 5);
        due("cost with kind 1 as before", costOf(x, "012"), 5 + 14 + 50);
    }

    private static void promise3_kindBelow0IsRefused() {
        dueRefusedKind(LEAST);
        dueRefusedKind(-2);
        dueRefusedKind(-1);
    }

    private static void promise3_kindFrom0To2IsTaken() {
        for (int kind = 0; kind <= 2; kind++) {
            WordLattice x = withLinks();
            due("learn(5, " + kind + ") of a new word", learn(x, "01", 5, kind), 1);
            due("cost then", costOf(x, "012"), 5 + 10 * kind + 4 + 50);
            learn(x, "01", 5, (kind + 1) % 3);
            due("learn(5, " + kind + ") of a word that is there", learn(x, "01", 5, kind), 1);
            due("cost then", costOf(x, "012"), 5 + 10 * kind + 4 + 50);
        }
    }

    private static void promise3_kind3IsRefusedThoughLinksHaveIt() {
        dueRefusedKind(3);
    }

    private static void promise3_kindAbove3IsRefused() {
        dueRefusedKind(4);
        dueRefusedKind(256);
        dueRefusedKind(GREATEST);
    }

    private static void promise3_fifteenthAndSixteenthWordAreTaken() {
        WordLattice x = withPairs(14);
        due("the 15th word", learn(x, "32103", 7, 0), 15);
        due("the 16th word", learn(x, "3", 8, 1), 16);
        due("lookUp of the 15th", lookUp(x, "32103"), 7);
        due("lookUp of the 16th", lookUp(x, "3"), 8);
    }

    private static void promise3_seventeenthWordIsRefused() {
        WordLattice x = withPairs(16);
        due("the 17th word", learn(x, "321", 7, 0), -1);
        due("learn once more", x.learn(8, 1), -1);
        due("lookUp of it", x.lookUp(), -1);
        due("spelling is still there", x.spell(0), 4);
        due("words then", beginning(x, ""), 16);
    }

    private static void promise3_wordThatIsThereIsTakenAmongSixteen() {
        for (int i = 0; i < 16; i++) {
            WordLattice x = withPairs(16);
            due("learn of " + pair(i), learn(x, pair(i), 99, 2), 16);
            for (int j = 0; j < 16; j++) {
                due("lookUp of " + pair(j), lookUp(x, pair(j)), j == i ? 99 : j + 20);
            }
        }
    }

    private static void promise3_wordIsTakenOnceOneOfSixteenIsForgotten() {
        WordLattice x = withPairs(16);
        due("forget", forget(x, "12"), 15);
        due("learn of another word", learn(x, "321", 7, 0), 16);
        due("learn of the forgotten word", learn(x, "12", 7, 0), -1);
    }

    private static void promise3_spellingIsEmptyThen() {
        WordLattice x = new WordLattice(1);
        learn(x, "01230", 5, 0);
        due("lookUp behind a new word", x.lookUp(), -1);
        due("spell behind a new word", x.spell(0), 1);
        learn(x, "01230", 6, 0);
        due("lookUp behind a word that was there", x.lookUp(), -1);
        due("spell behind a word that was there", x.spell(1), 1);
        due("beginning with this letter alone", x.beginning(), 0);
    }

    private static void promise3_wordThatIsThereGetsNewCostAndKind() {
        WordLattice x = withLinks();
        learn(x, "01", 5, 0);
        due("cost before", costOf(x, "012"), 5 + 4 + 50);
        due("learn", learn(x, "01", 0, 2), 1);
        due("lookUp", lookUp(x, "01"), 0);
        due("cost with the new cost and kind", x.cost(), 24 + 50);
    }

    private static void promise3_twoFaultsAtOnceAreRefused() {
        WordLattice x = withPairs(16);
        x.clearSpelling();
        due("empty spelling, wrong cost, wrong kind", x.learn(-1, 3), -1);
        due("empty spelling, 16 words", x.learn(0, 0), -1);
        spellAll(x, "321");
        due("17th word, wrong cost", x.learn(100, 0), -1);
        due("17th word, wrong kind", x.learn(0, -1), -1);
        spellAll(x, "33");
        due("word that is there, wrong cost and kind", x.learn(LEAST, GREATEST), -1);
        due("word that is there, wrong kind and cost", x.learn(GREATEST, LEAST), -1);
        due("lookUp of it", x.lookUp(), 35);
    }

    // Promise 4

    private static void promise4_lastWordLeavesNone() {
        WordLattice x = new WordLattice(1);
        learn(x, "0", 5, 0);
        due("forget", forget(x, "0"), 0);
        due("words then", x.beginning(), 0);
        due("lookUp then", lookUp(x, "0"), -1);
    }

    private static void promise4_answersTheNumberOfWordsFromSixteenDown() {
        WordLattice x = withPairs(16);
        for (int i = 0; i < 16; i++) {
            due("forget of " + pair(i), forget(x, pair(i)), 15 - i);
        }
        due("forget of a word that is gone", forget(x, "33"), -1);
    }

    private static void promise4_eachOfSixteenWordsGoesAlone() {
        for (int i = 0; i < 16; i++) {
            WordLattice x = withPairs(16);
            due("forget of " + pair(i), forget(x, pair(i)), 15);
            for (int j = 0; j < 16; j++) {
                due("lookUp of " + pair(j), lookUp(x, pair(j)), j == i ? -1 : j + 20);
            }
        }
    }

    private static void promise4_theOtherWordsKeepTheirKinds() {
        for (int i = 0; i < 16; i++) {
            WordLattice x = withPairs(16);
            forget(x, pair(i));
            for (int kind = 0; kind < 3; kind++) {
                x.link(kind, 3, 10 * kind);
                x.link(3, kind, 99);
            }
            for (int j = 0; j < 16; j++) {
                if (j != i) {
                    due("cost of " + pair(j) + " and a 0 without " + pair(i), costOf(x, pair(j) + "0"), j + 20 + 10 * (j % 3) + 50);
                }
            }
        }
    }

    private static void promise4_wordOfOneAndOfFiveLetters() {
        WordLattice x = new WordLattice(1);
        learn(x, "0", 5, 0);
        learn(x, "00000", 6, 0);
        due("forget of five letters", forget(x, "00000"), 1);
        due("lookUp of one letter", lookUp(x, "0"), 5);
        learn(x, "00000", 6, 0);
        due("forget of one letter", forget(x, "0"), 1);
        due("lookUp of five letters", lookUp(x, "00000"), 6);
    }

    private static void promise4_spellingIsEmptyThen() {
        WordLattice x = new WordLattice(1);
        learn(x, "01230", 5, 0);
        learn(x, "0", 6, 0);
        forget(x, "01230");
        due("lookUp", x.lookUp(), -1);
        due("beginning", x.beginning(), 1);
        due("spell", x.spell(0), 1);
        due("lookUp of this letter alone", x.lookUp(), 6);
    }

    private static void promise4_emptySpellingIsRefused() {
        WordLattice x = new WordLattice(1);
        due("forget without words", x.forget(), -1);
        learn(x, "0", 5, 0);
        due("forget with one word", x.forget(), -1);
        WordLattice full = withPairs(16);
        due("forget with 16 words", full.forget(), -1);
        due("words then", full.beginning(), 16);
    }

    private static void promise4_wordThatIsNotThereIsRefused() {
        String[] others = {"0", "01", "0120", "01200", "011", "013", "112", "210", "120"};
        for (String letters : others) {
            WordLattice x = new WordLattice(1);
            learn(x, "012", 5, 0);
            due("forget of " + letters, forget(x, letters), -1);
            due("words then", beginning(x, ""), 1);
            due("lookUp of 012", lookUp(x, "012"), 5);
        }
    }

    private static void promise4_forgottenWordIsRefused() {
        WordLattice x = new WordLattice(1);
        learn(x, "012", 5, 0);
        due("forget", forget(x, "012"), 0);
        due("forget again", forget(x, "012"), -1);
        due("spelling is still there", x.spell(0), 4);
        due("learn again", learn(x, "012", 6, 0), 1);
        due("forget of the word learnt again", forget(x, "012"), 0);
    }

    // Promise 5

    private static void promise5_costs0And99() {
        WordLattice x = new WordLattice(1);
        learn(x, "01", 0, 0);
        learn(x, "10", 99, 2);
        due("lookUp of a word of cost 0", lookUp(x, "01"), 0);
        due("lookUp of a word of cost 99", lookUp(x, "10"), 99);
    }

    private static void promise5_emptySpellingIsNoWord() {
        WordLattice x = new WordLattice(1);
        due("lookUp without words", x.lookUp(), -1);
        learn(x, "0", 5, 0);
        due("lookUp with one word", x.lookUp(), -1);
        due("lookUp with 16 words", withPairs(16).lookUp(), -1);
    }

    private static void promise5_onlyTheVeryLettersAreTheWord() {
        WordLattice x = new WordLattice(1);
        learn(x, "0120", 5, 0);
        String[] others = {"0", "01", "012", "01200", "01201", "0121", "0110", "0020", "1120", "120", "0210"};
        for (String letters : others) {
            due("lookUp of " + letters, lookUp(x, letters), -1);
        }
        due("lookUp of 0120", lookUp(x, "0120"), 5);
    }

    private static void promise5_forgottenWordIsNoWord() {
        WordLattice x = withPairs(16);
        forget(x, "33");
        due("lookUp of the last word, forgotten", lookUp(x, "33"), -1);
        forget(x, "00");
        due("lookUp of the first word, forgotten", lookUp(x, "00"), -1);
        due("lookUp of another word", lookUp(x, "32"), 34);
    }

    private static void promise5_nothingIsChanged() {
        WordLattice x = new WordLattice(1);
        learn(x, "01", 5, 0);
        spellAll(x, "01");
        due("lookUp", x.lookUp(), 5);
        due("lookUp again", x.lookUp(), 5);
        due("spell then", x.spell(0), 3);
        due("lookUp of no word", x.lookUp(), -1);
        due("spell then", x.spell(0), 4);
        due("words then", beginning(x, ""), 1);
    }

    // Promise 6

    private static void promise6_ofNoLettersToFive() {
        for (int letters = 0; letters <= 5; letters++) {
            WordLattice x = new WordLattice(1);
            learn(x, "0", 5, 0);
            spellAll(x, "12301".substring(0, letters));
            x.clearSpelling();
            due("lookUp after " + letters + " letters", x.lookUp(), -1);
            due("beginning after " + letters + " letters", x.beginning(), 1);
            due("learn after " + letters + " letters", x.learn(1, 0), -1);
            due("spell after " + letters + " letters", x.spell(0), 1);
            due("lookUp of this letter alone", x.lookUp(), 5);
        }
    }

    private static void promise6_nothingElseIsChanged() {
        WordLattice x = withLinks();
        learn(x, "01", 5, 0);
        typeAll(x, "012");
        spellAll(x, "01");
        x.clearSpelling();
        due("cost", x.cost(), 5 + 4 + 50);
        due("type", x.type(0), 4);
        due("lookUp", lookUp(x, "01"), 5);
        for (int k = 0; k < 4; k++) {
            for (int l = 0; l < 4; l++) {
                due("link(" + k + ", " + l + ")", x.link(k, l, 0), 10 * k + l + 1);
            }
        }
    }

    // Promise 7

    private static void promise7_eachLinkHasACostOfItsOwn() {
        for (int k = 0; k < 4; k++) {
            for (int l = 0; l < 4; l++) {
                WordLattice x = withLinks();
                due("link(" + k + ", " + l + ", 99)", x.link(k, l, 99), 10 * k + l + 1);
                for (int cell = 0; cell < 16; cell++) {
                    int before = cell == 4 * k + l ? 99 : 10 * (cell / 4) + cell % 4 + 1;
                    due("link number " + cell + " then", x.link(cell / 4, cell % 4, 0), before);
                }
            }
        }
    }

    private static void promise7_answersTheLinkCostBefore() {
        WordLattice x = new WordLattice(1);
        due("link cost 0 at the start", x.link(2, 3, 0), 0);
        due("link cost 0 before 99", x.link(2, 3, 99), 0);
        due("link cost 99 before 99", x.link(2, 3, 99), 99);
        due("link cost 99 before 0", x.link(2, 3, 0), 99);
        due("link cost 0 before 1", x.link(2, 3, 1), 0);
        due("link cost 1 before 98", x.link(2, 3, 98), 1);
        due("link cost 98 before 0", x.link(2, 3, 0), 98);
    }

    private static void dueRefusedLink(int k, int l, int cost) {
        WordLattice x = withLinks();
        due("link(" + k + ", " + l + ", " + cost + ")", x.link(k, l, cost), -1);
        for (int cell = 0; cell < 16; cell++) {
            due("link number " + cell + " then", x.link(cell / 4, cell % 4, 0), 10 * (cell / 4) + cell % 4 + 1);
        }
    }

    private static void promise7_firstKindBelow0IsRefused() {
        for (int l = 0; l < 4; l++) {
            dueRefusedLink(LEAST, l, 77);
            dueRefusedLink(-1, l, 77);
        }
    }

    private static void promise7_firstKindAbove3IsRefused() {
        for (int l = 0; l < 4; l++) {
            dueRefusedLink(4, l, 77);
            dueRefusedLink(5, l, 77);
            dueRefusedLink(GREATEST, l, 77);
        }
    }

    private static void promise7_secondKindBelow0IsRefused() {
        for (int k = 0; k < 4; k++) {
            dueRefusedLink(k, LEAST, 77);
            dueRefusedLink(k, -1, 77);
        }
    }

    private static void promise7_secondKindAbove3IsRefused() {
        for (int k = 0; k < 4; k++) {
            dueRefusedLink(k, 4, 77);
            dueRefusedLink(k, 5, 77);
            dueRefusedLink(k, GREATEST, 77);
        }
    }

    private static void promise7_costBelow0IsRefused() {
        for (int kind = 0; kind < 4; kind++) {
            dueRefusedLink(kind, 3 - kind, LEAST);
            dueRefusedLink(kind, kind, -1);
        }
    }

    private static void promise7_costFrom0To99IsTaken() {
        for (int cost = 0; cost <= 99; cost++) {
            WordLattice x = new WordLattice(1);
            due("link(0, 3, " + cost + ")", x.link(0, 3, cost), 0);
            due("link(3, 0, " + cost + ")", x.link(3, 0, cost), 0);
            due("link(0, 3, 0)", x.link(0, 3, 0), cost);
            due("link(3, 0, 0)", x.link(3, 0, 0), cost);
        }
    }

    private static void promise7_costAbove99IsRefused() {
        for (int kind = 0; kind < 4; kind++) {
            dueRefusedLink(kind, 3 - kind, 100);
            dueRefusedLink(kind, kind, GREATEST);
        }
    }

    private static void promise7_twoFaultsAtOnceAreRefused() {
        dueRefusedLink(-1, 4, 77);
        dueRefusedLink(4, -1, 77);
        dueRefusedLink(-1, 0, 100);
        dueRefusedLink(0, 4, -1);
        dueRefusedLink(LEAST, LEAST, LEAST);
        dueRefusedLink(GREATEST, GREATEST, GREATEST);
    }

    // Promise 8

    private static void promise8_letterWrapsAround() {
        WordLattice x = withSingles();
        for (int i = 0; i < LETTERS_GIVEN.length; i++) {
            x.clearText();
            due("type(" + LETTERS_GIVEN[i] + ")", x.type(LETTERS_GIVEN[i]), 1);
            due("cost then", x.cost(), 10 + LETTERS_TAKEN[i]);
        }
    }

    private static void promise8_letterWrapsAroundInTheTwelfthPlace() {
        WordLattice x = withSingles();
        for (int i = 0; i < LETTERS_GIVEN.length; i++) {
            typeAll(x, "00000000000");
            due("type(" + LETTERS_GIVEN[i] + ")", x.type(LETTERS_GIVEN[i]), 12);
            due("cost then", x.cost(), 110 + 10 + LETTERS_TAKEN[i]);
        }
    }

    private static void promise8_lettersAreAddedAtTheEnd() {
        WordLattice x = new WordLattice(50);
        learn(x, "01", 11, 0);
        learn(x, "10", 12, 0);
        x.type(0);
        x.type(1);
        due("cost of 0, then 1", x.cost(), 11);
    }

    private static void promise8_answersTheNumberOfLetters() {
        WordLattice x = new WordLattice(1);
        for (int letters = 1; letters <= 12; letters++) {
            due("type of letter " + letters, x.type(letters), letters);
            due("start of the end", x.start(letters), letters);
        }
    }

    private static void promise8_thirteenthLetterIsRefused() {
        int[] given = {LEAST, -1, 0, 1, 2, 3, 4, GREATEST};
        for (int letter : given) {
            WordLattice x = withSingles();
            typeAll(x, "01230123012");
            due("type of the twelfth letter", x.type(3), 12);
            due("type(" + letter + ") as the 13th", x.type(letter), -1);
            due("type(" + letter + ") as the 14th", x.type(letter), -1);
            due("cost then", x.cost(), 3 * (10 + 11 + 12 + 13));
            dueStarts(x, 0, 1, 2, 3, 4, 5, 6, 7, 8, 9, 10, 11, 12);
        }
    }

    private static void promise8_emptiedTextTakesTwelveLettersAgain() {
        WordLattice x = new WordLattice(1);
        for (int round = 0; round < 2; round++) {
            for (int letters = 1; letters <= 12; letters++) {
                due("type of letter " + letters, x.type(0), letters);
            }
            due("type of a 13th letter", x.type(0), -1);
            x.clearText();
        }
    }

    // Promise 9

    private static void promise9_ofNoLettersToTwelve() {
        for (int letters = 0; letters <= 12; letters++) {
            WordLattice x = withSingles();
            typeAll(x, "123123123123".substring(0, letters));
            x.clearText();
            due("cost after " + letters + " letters", x.cost(), 0);
            due("ways after " + letters + " letters", x.ways(), 1);
            dueStarts(x, 0);
            due("type after " + letters + " letters", x.type(0), 1);
            due("cost of this letter alone", x.cost(), 10);
        }
    }

    private static void promise9_nothingElseIsChanged() {
        WordLattice x = withLinks();
        learn(x, "01", 5, 0);
        typeAll(x, "012");
        spellAll(x, "0");
        x.clearText();
        due("beginning", x.beginning(), 1);
        due("spell", x.spell(1), 2);
        due("lookUp", x.lookUp(), 5);
        due("cost of the same text", costOf(x, "012"), 5 + 4 + 50);
        for (int k = 0; k < 4; k++) {
            for (int l = 0; l < 4; l++) {
                due("link(" + k + ", " + l + ")", x.link(k, l, 0), 10 * k + l + 1);
            }
        }
    }

    // Promise 10

    private static void promise10_emptyTextCosts0() {
        WordLattice x = new WordLattice(99);
        due("cost without words", x.cost(), 0);
        learn(x, "0", 99, 0);
        due("cost with a word", x.cost(), 0);
    }

    private static void promise10_oneLetterToTwelve() {
        WordLattice x = new WordLattice(7);
        x.link(3, 3, 2);
        for (int letters = 1; letters <= 12; letters++) {
            x.type(letters);
            due("cost of " + letters + " letters", x.cost(), 9 * letters - 2);
        }
    }

    private static void promise10_leastCostOfATextIs0() {
        WordLattice x = new WordLattice(99);
        learn(x, "0", 0, 0);
        for (int letters = 1; letters <= 12; letters++) {
            x.type(0);
            due("cost of " + letters + " words of cost 0", x.cost(), 0);
        }
    }

    private static void promise10_greatestCostIs2277() {
        WordLattice x = new WordLattice(99);
        x.link(3, 3, 99);
        due("cost", costOf(x, "012301230123"), 2277);
    }

    private static void promise10_dearPieceMayBePartOfABestCut() {
        WordLattice x = new WordLattice(1);
        // The cheap 01 of kind 0 has a dear link to the 2 of kind 1; 0 and 12 together are cheaper.
        learn(x, "01", 0, 0);
        learn(x, "2", 0, 1);
        learn(x, "12", 50, 2);
        x.link(0, 1, 99);
        x.link(3, 3, 99);
        x.link(3, 1, 49);
        due("cost", costOf(x, "012"), 51);
        x.link(3, 2, 48);
        due("cost if the way there is just as dear", x.cost(), 99);
        due("ways then", x.ways(), 2);
    }

    private static void promise10_followsEachChange() {
        WordLattice x = new WordLattice(10);
        due("cost of 01", costOf(x, "01"), 20);
        learn(x, "01", 5, 0);
        due("cost behind learn", x.cost(), 5);
        x.type(0);
        due("cost behind type", x.cost(), 15);
        x.link(0, 3, 3);
        due("cost behind link", x.cost(), 18);
        forget(x, "01");
        due("cost behind forget", x.cost(), 30);
        x.clearText();
        due("cost behind clearText", x.cost(), 0);
    }

    // Promise 11

    private static void promise11_emptyTextHasOneBestCut() {
        WordLattice x = new WordLattice(1);
        due("ways without words", x.ways(), 1);
        learn(x, "0", 0, 0);
        learn(x, "00", 0, 0);
        due("ways with words", x.ways(), 1);
    }

    private static void promise11_oneLetterHasOneBestCut() {
        WordLattice x = new WordLattice(1);
        due("ways of an unknown letter", waysOf(x, "0"), 1);
        learn(x, "0", 1, 0);
        due("ways of a word as dear as the penalty", x.ways(), 1);
    }

    private static void promise11_greatestNumberOfBestCuts() {
        WordLattice x = new WordLattice(10);
        // With each row of one to five zeros at the same cost a letter, all cuts into such rows are best ones.
        for (int letters = 2; letters <= 5; letters++) {
            learn(x, "00000".substring(0, letters), 10 * letters, letters % 3);
        }
        int[] ways = {1, 2, 4, 8, 16, 31, 61, 120, 236, 464, 912, 1793};
        for (int letters = 1; letters <= 12; letters++) {
            x.type(0);
            due("ways of " + letters + " letters", x.ways(), ways[letters - 1]);
            due("cost of " + letters + " letters", x.cost(), 10 * letters);
        }
        dueStarts(x, 0, 5, 10, 12);
    }

    private static void promise11_cutsThatEndInDifferentKindsAllCount() {
        WordLattice x = new WordLattice(10);
        learn(x, "0", 10, 0);
        learn(x, "01", 20, 1);
        learn(x, "12", 20, 2);
        learn(x, "012", 30, 0);
        // 012, 01 2, 0 12, 0 1 2
        due("ways", waysOf(x, "012"), 4);
        due("cost", x.cost(), 30);
        x.link(1, 3, 1);
        due("ways without 01 2", x.ways(), 3);
        x.link(0, 2, 1);
        due("ways without 0 12", x.ways(), 2);
        x.link(0, 3, 1);
        due("ways without 0 1 2", x.ways(), 1);
        x.link(0, 3, 0);
        learn(x, "012", 31, 0);
        due("ways without 012", x.ways(), 1);
    }

    // Promise 12

    private static WordLattice withThreePieces() {
        WordLattice x = new WordLattice(10);
        learn(x, "01", 1, 0);
        learn(x, "230", 1, 1);
        typeAll(x, "0123001");
        return x;
    }

    private static void promise12_eachPieceAndTheEnd() {
        WordLattice x = withThreePieces();
        due("start(0)", x.start(0), 0);
        due("start(1)", x.start(1), 2);
        due("start(2), the last piece", x.start(2), 5);
        due("start(3), just behind it", x.start(3), 7);
    }

    private static void promise12_negativePieceIsMinus1() {
        WordLattice x = withThreePieces();
        due("start(-1)", x.start(-1), -1);
        due("start(-2)", x.start(-2), -1);
        due("start of the least int", x.start(LEAST), -1);
        due("start of the least int on an empty text", new WordLattice(1).start(LEAST), -1);
    }

    private static void promise12_pieceBehindTheEndIsMinus1() {
        WordLattice x = withThreePieces();
        for (int piece = 4; piece <= 66; piece++) {
            due("start(" + piece + ")", x.start(piece), -1);
        }
        due("start of the greatest int", x.start(GREATEST), -1);
        due("start of the greatest int on an empty text", new WordLattice(1).start(GREATEST), -1);
    }

    private static void promise12_emptyText() {
        WordLattice x = new WordLattice(1);
        due("start(-1)", x.start(-1), -1);
        due("start(0)", x.start(0), 0);
        due("start(1)", x.start(1), -1);
    }

    private static void promise12_onePiece() {
        WordLattice x = new WordLattice(1);
        x.type(0);
        due("start(0)", x.start(0), 0);
        due("start(1)", x.start(1), 1);
        due("start(2)", x.start(2), -1);
    }

    private static void promise12_twelvePieces() {
        WordLattice x = new WordLattice(1);
        typeAll(x, "012301230123");
        due("start(-1)", x.start(-1), -1);
        for (int piece = 0; piece <= 12; piece++) {
            due("start(" + piece + ")", x.start(piece), piece);
        }
        due("start(13)", x.start(13), -1);
        due("start of the greatest int", x.start(GREATEST), -1);
    }

    private static void promise12_shorterTextBehindALongerOne() {
        WordLattice x = new WordLattice(1);
        typeAll(x, "012301230123");
        due("start(12) of twelve letters", x.start(12), 12);
        typeAll(x, "012");
        dueStarts(x, 0, 1, 2, 3);
        due("start(12) of three letters", x.start(12), -1);
    }

    // Promise 13

    private static void promise13_emptySpellingCountsAllWords() {
        for (int words = 0; words <= 16; words++) {
            due("beginning with " + words + " words", withPairs(words).beginning(), words);
        }
    }

    private static void promise13_theWordItselfCounts() {
        String[] words = {"0", "01", "012", "0123", "01230"};
        for (String word : words) {
            WordLattice x = new WordLattice(1);
            learn(x, word, 0, 0);
            due("beginning with " + word, beginning(x, word), 1);
        }
    }

    private static void promise13_eachBeginningOfAWordCounts() {
        WordLattice x = new WordLattice(1);
        learn(x, "01230", 0, 0);
        for (int letters = 0; letters <= 5; letters++) {
            String front = "01230".substring(0, letters);
            due("beginning with " + letters + " letters", beginning(x, front), 1);
        }
    }

    private static void promise13_aSpellingLongerThanTheWordDoesNotCount() {
        WordLattice x = new WordLattice(1);
        learn(x, "0", 0, 0);
        due("beginning with 0", beginning(x, "0"), 1);
        due("beginning with 00", beginning(x, "00"), 0);
        due("beginning with 00000", beginning(x, "00000"), 0);
    }

    private static void promise13_aWordThatHasTheLettersElsewhereDoesNotCount() {
        WordLattice x = new WordLattice(1);
        learn(x, "3012", 0, 0);
        String[] others = {"0", "01", "012", "12", "2", "1", "03", "31", "32", "33", "300"};
        for (String letters : others) {
            due("beginning with " + letters, beginning(x, letters), 0);
        }
    }

    private static void promise13_leadingZerosCount() {
        WordLattice x = new WordLattice(1);
        learn(x, "1", 0, 0);
        learn(x, "01", 0, 0);
        learn(x, "0001", 0, 0);
        due("beginning with 0", beginning(x, "0"), 2);
        due("beginning with 00", beginning(x, "00"), 1);
        due("beginning with 1", beginning(x, "1"), 1);
        due("beginning with no letters", beginning(x, ""), 3);
    }

    private static void promise13_allSixteenWordsMayBeginAlike() {
        WordLattice x = new WordLattice(1);
        for (int i = 0; i < 16; i++) {
            learn(x, "321" + pair(i), 0, 0);
        }
        due("beginning with 3", beginning(x, "3"), 16);
        due("beginning with 321", beginning(x, "321"), 16);
        due("beginning with 3210", beginning(x, "3210"), 4);
        due("beginning with 32100", beginning(x, "32100"), 1);
        due("beginning with 322", beginning(x, "322"), 0);
    }

    private static void promise13_forgottenWordsDoNotCount() {
        WordLattice x = withPairs(16);
        forget(x, "33");
        due("beginning with 33", beginning(x, "33"), 0);
        due("beginning with 3", beginning(x, "3"), 3);
        due("beginning with no letters", beginning(x, ""), 15);
    }

    private static void promise13_changesNothing() {
        WordLattice x = new WordLattice(1);
        learn(x, "01", 5, 0);
        spellAll(x, "0");
        due("beginning", x.beginning(), 1);
        due("beginning again", x.beginning(), 1);
        due("spell then", x.spell(1), 2);
        due("lookUp then", x.lookUp(), 5);
    }
}
