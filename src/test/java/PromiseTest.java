/** Promises 1 to 13 of the document, one method or more for each: ordinary inputs, edges and wrong inputs. */
public final class PromiseTest {
    private static int wrong = 0;

    public static void main(String[] args) {
        newObjectIsEmpty();
        penaltyIsKeptInBounds();
        spellCountsUpToFive();
        spellTakesTheLowTwoBits();
        learnAddsWords();
        learnReplacesAWord();
        learnRefusesWrongInputs();
        learnStopsAtSixteenWords();
        forgetTakesOut();
        forgetRefusesWhatIsNotThere();
        forgetKeepsTheOthers();
        lookUpAnswersTheCost();
        clearSpellingEmptiesOnlyTheSpelling();
        linkAnswersTheCostBefore();
        linkRefusesWrongInputs();
        linkHasADirection();
        typeCountsUpToTwelve();
        typeTakesTheLowTwoBits();
        clearTextEmptiesOnlyTheText();
        costOfUnknownPieces();
        costOfWordsAndLinks();
        costOfALetterThatIsAWord();
        costLooksAheadOverLinks();
        costAtItsGreatest();
        waysCountsBestCuts();
        startTakesTheLongestFirst();
        startPrefersCheapToLong();
        startTakesTheLongestSecond();
        startLooksAtTheKindBefore();
        startAtItsEdges();
        beginningCountsWords();
        answersChangeNothing();
        objectsAreApart();
        System.out.println(wrong == 0 ? "all answers are as due" : wrong + " answers are not as due");
        if (wrong != 0) {
            System.exit(1);
        }
    }

    private static void due(String what, int got, int want) {
        if (got != want) {
            wrong++;
            System.out.println(what + " answered " + got + ", due is " + want);
        }
    }

    private static void spellAll(WordLattice x, String letters) {
        x.clearSpelling();
        for (int i = 0; i < letters.length(); i++) {
            due("spell in " + letters, x.spell(letters.charAt(i) - '0'), i + 1);
        }
    }

    private static int learn(WordLattice x, String letters, int cost, int kind) {
        spellAll(x, letters);
        return x.learn(cost, kind);
    }

    private static int forget(WordLattice x, String letters) {
        spellAll(x, letters);
        return x.forget();
    }

    private static int lookUp(WordLattice x, String letters) {
        spellAll(x, letters);
        return x.lookUp();
    }

    private static int beginning(WordLattice x, String letters) {
        spellAll(x, letters);
        return x.beginning();
    }

    private static void typeAll(WordLattice x, String letters) {
        x.clearText();
        for (int i = 0; i < letters.length(); i++) {
            due("type in " + letters, x.type(letters.charAt(i) - '0'), i + 1);
        }
    }

    /** The chosen cut must begin its pieces at these places; the last one is the length of the text. */
    private static void dueStarts(String what, WordLattice x, int... places) {
        for (int piece = 0; piece < places.length; piece++) {
            due(what + ": start(" + piece + ")", x.start(piece), places[piece]);
        }
        for (int piece = places.length; piece <= 14; piece++) {
            due(what + ": start(" + piece + ")", x.start(piece), -1);
        }
        due(what + ": start(-1)", x.start(-1), -1);
    }

    /** 16 different words of two letters, the word number i with cost i and kind i % 3. */
    private static void fillDictionary(WordLattice x) {
        for (int i = 0; i < 16; i++) {
            due("filling", learn(x, "" + i / 4 + i % 4, i, i % 3), i + 1);
        }
    }

    // Promise 1

    private static void newObjectIsEmpty() {
        WordLattice x = new WordLattice(7);
        due("new: beginning", x.beginning(), 0);
        due("new: lookUp", x.lookUp(), -1);
        due("new: cost", x.cost(), 0);
        due("new: ways", x.ways(), 1);
        dueStarts("new", x, 0);
        for (int k = 0; k < 4; k++) {
            for (int l = 0; l < 4; l++) {
                due("new: link", x.link(k, l, 0), 0);
            }
        }
        due("new: spell", x.spell(0), 1);
        due("new: type", x.type(0), 1);
    }

    private static void penaltyIsKeptInBounds() {
        int[] given = {Integer.MIN_VALUE, -1, 0, 1, 2, 50, 98, 99, 100, 101, Integer.MAX_VALUE};
        int[] kept = {1, 1, 1, 1, 2, 50, 98, 99, 99, 99, 99};
        for (int i = 0; i < given.length; i++) {
            WordLattice x = new WordLattice(given[i]);
            x.type(0);
            due("penalty " + given[i], x.cost(), kept[i]);
        }
    }

    // Promise 2

    private static void spellCountsUpToFive() {
        WordLattice x = new WordLattice(7);
        spellAll(x, "01230");
        due("spell: sixth", x.spell(1), -1);
        due("spell: seventh", x.spell(1), -1);
        due("spell: learn of five", x.learn(5, 0), 1);
        due("spell: after learn", x.spell(0), 1);
        due("spell: the sixth letter changed nothing", lookUp(x, "01230"), 5);
    }

    private static void spellTakesTheLowTwoBits() {
        WordLattice x = new WordLattice(7);
        due("spell: learn", learn(x, "0123", 42, 1), 1);
        int[] big = {4, 5, 6, 7};
        for (int letter : big) {
            x.spell(letter);
        }
        due("spell: 4 to 7", x.spell(8), 5);
        x.clearSpelling();
        int[][] same = {big, {-4, -3, -2, -1}, {Integer.MIN_VALUE, 1 << 30 | 1, -1 << 2 | 2, Integer.MAX_VALUE}};
        for (int[] letters : same) {
            x.clearSpelling();
            for (int letter : letters) {
                x.spell(letter);
            }
            due("spell: masked letters", x.lookUp(), 42);
        }
    }

    // Promise 3

    private static void learnAddsWords() {
        WordLattice x = new WordLattice(7);
        due("learn: first", learn(x, "0", 0, 0), 1);
        due("learn: spelling is empty then", x.lookUp(), -1);
        due("learn: spelling has no letters then", x.spell(0), 1);
        due("learn: same letter, longer", learn(x, "00", 99, 2), 2);
        due("learn: five letters", learn(x, "00000", 1, 1), 3);
        due("learn: lookUp 0", lookUp(x, "0"), 0);
        due("learn: lookUp 00", lookUp(x, "00"), 99);
        due("learn: lookUp 000", lookUp(x, "000"), -1);
        due("learn: lookUp 00000", lookUp(x, "00000"), 1);
    }

    private static void learnReplacesAWord() {
        WordLattice x = new WordLattice(50);
        learn(x, "12", 5, 0);
        learn(x, "3", 6, 1);
        x.link(0, 1, 10);
        x.link(2, 1, 20);
        typeAll(x, "123");
        due("replace: cost before", x.cost(), 21);
        due("replace: learn", learn(x, "12", 8, 2), 2);
        due("replace: spelling is empty then", x.spell(0), 1);
        due("replace: lookUp", lookUp(x, "12"), 8);
        due("replace: the other word", lookUp(x, "3"), 6);
        due("replace: cost with new cost and kind", x.cost(), 34);
    }

    private static void learnRefusesWrongInputs() {
        WordLattice x = new WordLattice(7);
        due("learn: empty spelling", x.learn(5, 0), -1);
        due("learn: empty spelling adds nothing", x.beginning(), 0);
        learn(x, "21", 5, 0);
        int[][] refused = {{-1, 0}, {100, 0}, {5, -1}, {5, 3}, {5, 4}, {Integer.MIN_VALUE, 0}, {Integer.MAX_VALUE, 0},
            {5, Integer.MIN_VALUE}, {5, Integer.MAX_VALUE}, {-1, 3}};
        for (String letters : new String[] {"21", "2"}) {
            spellAll(x, letters);
            for (int[] r : refused) {
                due("learn(" + r[0] + ", " + r[1] + ")", x.learn(r[0], r[1]), -1);
            }
            due("learn: a refusal leaves the spelling", x.spell(3), letters.length() + 1);
        }
        due("learn: refusals leave the word", lookUp(x, "21"), 5);
        due("learn: refusals add no word", lookUp(x, "2"), -1);
        x.clearSpelling();
        due("learn: refusals leave the number", x.beginning(), 1);
        due("learn: 0, 2", learn(x, "30", 0, 2), 2);
        due("learn: 99, 0", learn(x, "31", 99, 0), 3);
    }

    private static void learnStopsAtSixteenWords() {
        WordLattice x = new WordLattice(7);
        fillDictionary(x);
        due("full: a 17th word", learn(x, "012", 5, 0), -1);
        due("full: the spelling stays", x.spell(3), 4);
        due("full: lookUp of the 17th", lookUp(x, "012"), -1);
        due("full: a word that is there", learn(x, "33", 77, 1), 16);
        due("full: its new cost", lookUp(x, "33"), 77);
        due("full: the first word too", learn(x, "00", 66, 1), 16);
        due("full: its new cost", lookUp(x, "00"), 66);
        due("full: one out", forget(x, "11"), 15);
        due("full: one in", learn(x, "012", 5, 0), 16);
        due("full: and no more", learn(x, "11", 5, 0), -1);
    }

    // Promise 4

    private static void forgetTakesOut() {
        WordLattice x = new WordLattice(7);
        learn(x, "01", 5, 0);
        learn(x, "2", 6, 1);
        typeAll(x, "01");
        due("forget: cost before", x.cost(), 5);
        due("forget: first", forget(x, "01"), 1);
        due("forget: spelling is empty then", x.spell(0), 1);
        due("forget: lookUp", lookUp(x, "01"), -1);
        due("forget: cost after", x.cost(), 14);
        due("forget: last", forget(x, "2"), 0);
        x.clearSpelling();
        due("forget: none left", x.beginning(), 0);
        due("forget: learn again", learn(x, "01", 9, 0), 1);
        due("forget: lookUp again", lookUp(x, "01"), 9);
    }

    private static void forgetRefusesWhatIsNotThere() {
        WordLattice x = new WordLattice(7);
        due("forget: empty spelling, no words", x.forget(), -1);
        learn(x, "012", 5, 0);
        due("forget: empty spelling", x.forget(), -1);
        due("forget: only a beginning", forget(x, "01"), -1);
        due("forget: a refusal leaves the spelling", x.spell(2), 3);
        due("forget: which is the word now", x.lookUp(), 5);
        due("forget: too long", forget(x, "0120"), -1);
        due("forget: a refusal leaves the words", lookUp(x, "012"), 5);
        due("forget: once", forget(x, "012"), 0);
        due("forget: twice", forget(x, "012"), -1);
        due("forget: twice leaves the spelling", x.spell(0), 4);
    }

    private static void forgetKeepsTheOthers() {
        for (int gone = 0; gone < 16; gone++) {
            WordLattice x = new WordLattice(99);
            fillDictionary(x);
            due("forget one of 16", forget(x, "" + gone / 4 + gone % 4), 15);
            for (int k = 0; k < 3; k++) {
                x.link(k, 3, 10 * (k + 1));
                x.link(3, k, 99);
            }
            for (int i = 0; i < 16; i++) {
                String letters = "" + i / 4 + i % 4;
                due("after forgetting " + gone + ": " + letters, lookUp(x, letters), i == gone ? -1 : i);
                if (i != gone) {
                    // The unknown letter behind the word shows the word's kind by its link.
                    typeAll(x, letters + "0");
                    due("after forgetting " + gone + ": cost of " + letters, x.cost(), i + 10 * (i % 3 + 1) + 99);
                }
            }
        }
    }

    // Promise 5

    private static void lookUpAnswersTheCost() {
        WordLattice x = new WordLattice(7);
        due("lookUp: empty spelling, no words", x.lookUp(), -1);
        learn(x, "01", 0, 2);
        learn(x, "10", 99, 1);
        due("lookUp: empty spelling", x.lookUp(), -1);
        due("lookUp: cost 0", lookUp(x, "01"), 0);
        due("lookUp: again", x.lookUp(), 0);
        due("lookUp: leaves the spelling", x.spell(0), 3);
        due("lookUp: longer than a word", x.lookUp(), -1);
        due("lookUp: cost 99", lookUp(x, "10"), 99);
        due("lookUp: beginning of a word", lookUp(x, "1"), -1);
        due("lookUp: leading zeros count", lookUp(x, "001"), -1);
    }

    // Promise 6

    private static void clearSpellingEmptiesOnlyTheSpelling() {
        WordLattice x = new WordLattice(7);
        x.clearSpelling();
        due("clearSpelling: of an empty one", x.spell(1), 1);
        due("clearSpelling: learn", x.learn(5, 0), 1);
        typeAll(x, "11");
        x.link(0, 0, 3);
        spellAll(x, "12301");
        x.clearSpelling();
        due("clearSpelling: no word", x.lookUp(), -1);
        due("clearSpelling: words stay", x.beginning(), 1);
        due("clearSpelling: text and links stay", x.cost(), 13);
        due("clearSpelling: letters from 1 again", x.spell(1), 1);
        due("clearSpelling: nothing of the old letters", x.lookUp(), 5);
    }

    // Promise 7

    private static void linkAnswersTheCostBefore() {
        WordLattice x = new WordLattice(7);
        for (int round = 0; round < 3; round++) {
            for (int k = 0; k < 4; k++) {
                for (int l = 0; l < 4; l++) {
                    int cell = 4 * k + l;
                    int before = round == 0 ? 0 : 6 * cell + round - 1;
                    due("link: round " + round, x.link(k, l, 6 * cell + round), before);
                }
            }
        }
        due("link: to 99", x.link(0, 0, 99), 2);
        due("link: from 99 to 0", x.link(0, 0, 0), 99);
        due("link: from 0", x.link(0, 0, 1), 0);
    }

    private static void linkRefusesWrongInputs() {
        WordLattice x = new WordLattice(7);
        for (int k = 0; k < 4; k++) {
            for (int l = 0; l < 4; l++) {
                x.link(k, l, 10 + 4 * k + l);
            }
        }
        int[] notKinds = {-1, 4, 5, Integer.MIN_VALUE, Integer.MAX_VALUE};
        for (int wrongKind : notKinds) {
            for (int kind = 0; kind < 4; kind++) {
                due("link(" + wrongKind + ", " + kind + ")", x.link(wrongKind, kind, 1), -1);
                due("link(" + kind + ", " + wrongKind + ")", x.link(kind, wrongKind, 1), -1);
            }
        }
        int[] notCosts = {-1, 100, Integer.MIN_VALUE, Integer.MAX_VALUE};
        for (int wrongCost : notCosts) {
            due("link: cost " + wrongCost, x.link(1, 2, wrongCost), -1);
        }
        typeAll(x, "0");
        due("link: nothing stands before the first piece", x.cost(), 7);
        for (int k = 0; k < 4; k++) {
            for (int l = 0; l < 4; l++) {
                due("link: refusals change nothing", x.link(k, l, 0), 10 + 4 * k + l);
            }
        }
    }

    private static void linkHasADirection() {
        String[] lettersOfKind = {"0", "1", "2", "3"};
        WordLattice x = new WordLattice(7);
        for (int kind = 0; kind < 3; kind++) {
            learn(x, lettersOfKind[kind], 0, kind);
        }
        for (int k = 0; k < 4; k++) {
            for (int l = 0; l < 4; l++) {
                x.link(k, l, 20 + 4 * k + l);
            }
        }
        for (int k = 0; k < 4; k++) {
            for (int l = 0; l < 4; l++) {
                typeAll(x, lettersOfKind[k] + lettersOfKind[l]);
                int unknown = (k == 3 ? 7 : 0) + (l == 3 ? 7 : 0);
                due("link: cost of kind " + k + " then " + l, x.cost(), 20 + 4 * k + l + unknown);
            }
        }
    }

    // Promise 8

    private static void typeCountsUpToTwelve() {
        WordLattice x = new WordLattice(7);
        typeAll(x, "012301230123");
        due("type: 13th", x.type(0), -1);
        due("type: 14th", x.type(0), -1);
        due("type: cost of twelve", x.cost(), 84);
        dueStarts("type", x, 0, 1, 2, 3, 4, 5, 6, 7, 8, 9, 10, 11, 12);
        learn(x, "3", 1, 0);
        due("type: a refused letter changes nothing", x.cost(), 66);
    }

    private static void typeTakesTheLowTwoBits() {
        WordLattice x = new WordLattice(50);
        learn(x, "0123", 1, 0);
        int[][] same = {{0, 1, 2, 3}, {4, 5, 6, 7}, {-4, -3, -2, -1},
            {Integer.MIN_VALUE, 1 << 30 | 1, -1 << 2 | 2, Integer.MAX_VALUE}};
        for (int[] letters : same) {
            x.clearText();
            for (int i = 0; i < 4; i++) {
                due("type: masked letter", x.type(letters[i]), i + 1);
            }
            due("type: cost of masked letters", x.cost(), 1);
        }
    }

    // Promise 9

    private static void clearTextEmptiesOnlyTheText() {
        WordLattice x = new WordLattice(7);
        x.clearText();
        due("clearText: of an empty one", x.cost(), 0);
        learn(x, "01", 5, 1);
        x.link(1, 1, 4);
        typeAll(x, "010101010101");
        due("clearText: cost before", x.cost(), 50);
        spellAll(x, "0");
        x.clearText();
        due("clearText: cost", x.cost(), 0);
        due("clearText: ways", x.ways(), 1);
        dueStarts("clearText", x, 0);
        due("clearText: spelling stays", x.spell(1), 2);
        due("clearText: words stay", x.lookUp(), 5);
        due("clearText: links stay", x.link(1, 1, 4), 4);
        due("clearText: letters from 1 again", x.type(0), 1);
        due("clearText: nothing of the old letters", x.cost(), 7);
        dueStarts("clearText: one letter", x, 0, 1);
    }

    // Promise 10

    private static void costOfUnknownPieces() {
        WordLattice x = new WordLattice(9);
        x.link(3, 3, 4);
        due("unknown: empty", x.cost(), 0);
        for (int length = 1; length <= 12; length++) {
            x.type(length);
            due("unknown: " + length, x.cost(), 9 * length + 4 * (length - 1));
            due("unknown: ways of " + length, x.ways(), 1);
        }
    }

    private static void costOfWordsAndLinks() {
        WordLattice x = new WordLattice(30);
        learn(x, "01", 5, 0);
        learn(x, "23", 6, 1);
        learn(x, "1", 7, 2);
        x.link(0, 1, 11);
        x.link(1, 3, 13);
        x.link(3, 0, 17);
        typeAll(x, "0123001");
        // 01 23 0 01
        due("links: cost", x.cost(), 5 + 11 + 6 + 13 + 30 + 17 + 5);
        dueStarts("links", x, 0, 2, 4, 5, 7);
        learn(x, "01230", 83, 2);
        due("links: a word that is too dear", x.cost(), 87);
        learn(x, "01230", 81, 2);
        due("links: a word that is cheap enough", x.cost(), 86);
        dueStarts("links: a word that is cheap enough", x, 0, 5, 7);
    }

    private static void costOfALetterThatIsAWord() {
        WordLattice x = new WordLattice(2);
        learn(x, "0", 40, 0);
        typeAll(x, "0");
        due("a letter that is a word is no unknown piece", x.cost(), 40);
        due("nor a second way", x.ways(), 1);
        learn(x, "0", 2, 0);
        due("nor at equal cost", x.ways(), 1);
        x.link(3, 3, 50);
        typeAll(x, "00");
        due("its kind is that of the word", x.cost(), 4);
    }

    private static void costLooksAheadOverLinks() {
        WordLattice x = new WordLattice(99);
        // The dearer way to place 2 is the better one for the whole, as it ends in the kind with the cheap link.
        learn(x, "01", 1, 0);
        learn(x, "0", 2, 1);
        learn(x, "1", 2, 1);
        learn(x, "2", 1, 2);
        x.link(0, 2, 50);
        typeAll(x, "01");
        due("ahead: short text", x.cost(), 1);
        dueStarts("ahead: short text", x, 0, 2);
        x.type(2);
        due("ahead: long text", x.cost(), 5);
        due("ahead: ways", x.ways(), 1);
        dueStarts("ahead: long text", x, 0, 1, 2, 3);
    }

    private static void costAtItsGreatest() {
        WordLattice x = new WordLattice(99);
        x.link(3, 3, 99);
        typeAll(x, "000000000000");
        due("greatest: unknown", x.cost(), 12 * 99 + 11 * 99);
        learn(x, "0", 99, 0);
        x.link(0, 0, 99);
        due("greatest: word", x.cost(), 12 * 99 + 11 * 99);
        due("greatest: ways", x.ways(), 1);
        learn(x, "00", 0, 0);
        due("greatest: pairs", x.cost(), 5 * 99);
    }

    // Promise 11

    private static void waysCountsBestCuts() {
        WordLattice x = new WordLattice(5);
        due("ways: empty text", x.ways(), 1);
        learn(x, "0", 0, 0);
        learn(x, "00", 0, 1);
        int before = 1;
        int now = 1;
        for (int length = 1; length <= 12; length++) {
            x.type(0);
            due("ways: ones and twos in " + length, x.ways(), now);
            int next = before + now;
            before = now;
            now = next;
        }
        // Only the cut into six pairs has no link of kind 0 in it.
        x.link(0, 0, 1);
        x.link(0, 1, 1);
        x.link(1, 0, 1);
        due("ways: pairs alone", x.ways(), 1);
        due("ways: their cost", x.cost(), 0);
        learn(x, "00", 1, 1);
        x.link(0, 1, 0);
        x.link(1, 0, 0);
        // n singles in runs and m pairs: a link between neighbouring singles costs 1, and so does a pair.
        typeAll(x, "000");
        due("ways: equal cost by other means, cost", x.cost(), 1);
        due("ways: equal cost by other means", x.ways(), 2);
        typeAll(x, "0000");
        due("ways: four letters, cost", x.cost(), 1);
        due("ways: four letters", x.ways(), 1);
    }

    // Promise 12

    private static void startTakesTheLongestFirst() {
        WordLattice x = new WordLattice(1);
        learn(x, "01", 2, 0);
        learn(x, "12", 2, 1);
        typeAll(x, "012");
        due("longest first: ways", x.ways(), 3);
        dueStarts("longest first", x, 0, 2, 3);
        learn(x, "012", 3, 2);
        dueStarts("longest first: whole", x, 0, 3);
        learn(x, "012", 4, 2);
        dueStarts("longest first: whole too dear", x, 0, 2, 3);
    }

    private static void startPrefersCheapToLong() {
        WordLattice x = new WordLattice(1);
        learn(x, "0123", 5, 0);
        learn(x, "01230", 6, 0);
        learn(x, "23", 1, 1);
        typeAll(x, "01230");
        due("cheap: cost", x.cost(), 4);
        dueStarts("cheap", x, 0, 1, 2, 4, 5);
        x.link(3, 3, 3);
        // 0123 0 is 6, 01230 is 6, 0 1 23 0 is 7
        due("cheap: cost with links", x.cost(), 6);
        due("cheap: ways with links", x.ways(), 2);
        dueStarts("cheap with links", x, 0, 5);
    }

    private static void startTakesTheLongestSecond() {
        WordLattice x = new WordLattice(1);
        learn(x, "0", 1, 0);
        learn(x, "11", 2, 1);
        learn(x, "112", 3, 1);
        learn(x, "1122", 9, 2);
        learn(x, "22", 2, 2);
        typeAll(x, "01122");
        // 0 112 2 before 0 11 22, before 0 11 2 2, ...
        due("longest second: cost", x.cost(), 5);
        dueStarts("longest second", x, 0, 1, 4, 5);
        x.link(1, 3, 1);
        dueStarts("longest second: link in the way", x, 0, 1, 3, 5);
        x.link(1, 2, 1);
        dueStarts("longest second: both in the way", x, 0, 1, 2, 3, 5);
    }

    private static void startLooksAtTheKindBefore() {
        WordLattice x = new WordLattice(50);
        learn(x, "0", 1, 0);
        learn(x, "12", 2, 1);
        learn(x, "1", 2, 2);
        learn(x, "2", 1, 2);
        x.link(0, 1, 5);
        typeAll(x, "12");
        dueStarts("kind before: alone", x, 0, 2);
        typeAll(x, "012");
        dueStarts("kind before: behind kind 0", x, 0, 1, 2, 3);
        learn(x, "0", 1, 1);
        dueStarts("kind before: behind kind 1", x, 0, 1, 3);
    }

    private static void startAtItsEdges() {
        WordLattice x = new WordLattice(5);
        due("start: empty text", x.start(0), 0);
        due("start: empty text, 1", x.start(1), -1);
        learn(x, "01", 1, 0);
        typeAll(x, "010101");
        dueStarts("start: three words", x, 0, 2, 4, 6);
        int[] outside = {-1, -2, Integer.MIN_VALUE, 4, 5, 6, 7, 12, 13, 64, 1000000, Integer.MAX_VALUE};
        for (int piece : outside) {
            due("start(" + piece + ")", x.start(piece), -1);
        }
        typeAll(x, "0101");
        dueStarts("start: nothing of a longer text before", x, 0, 2, 4);
        forget(x, "01");
        dueStarts("start: nothing of a word before", x, 0, 1, 2, 3, 4);
    }

    // Promise 13

    private static void beginningCountsWords() {
        WordLattice x = new WordLattice(5);
        due("beginning: no words", x.beginning(), 0);
        due("beginning: no words, 0", beginning(x, "0"), 0);
        for (String letters : new String[] {"0", "00", "01", "012", "01230", "1", "10", "31"}) {
            learn(x, letters, 1, 0);
        }
        due("beginning: empty", x.beginning(), 8);
        due("beginning: 0", beginning(x, "0"), 5);
        due("beginning: 00", beginning(x, "00"), 1);
        due("beginning: 000", beginning(x, "000"), 0);
        due("beginning: 01", beginning(x, "01"), 3);
        due("beginning: 012", beginning(x, "012"), 2);
        due("beginning: 0123", beginning(x, "0123"), 1);
        due("beginning: 01230", beginning(x, "01230"), 1);
        due("beginning: 01231", beginning(x, "01231"), 0);
        due("beginning: 1", beginning(x, "1"), 2);
        due("beginning: 2", beginning(x, "2"), 0);
        due("beginning: 3", beginning(x, "3"), 1);
        due("beginning: leaves the spelling", x.spell(1), 2);
        due("beginning: 31", x.beginning(), 1);
        forget(x, "012");
        due("beginning: after forget", beginning(x, "01"), 2);
        learn(x, "01", 50, 2);
        due("beginning: after replacing", beginning(x, "01"), 2);
        WordLattice full = new WordLattice(5);
        fillDictionary(full);
        due("beginning: sixteen", full.beginning(), 16);
        due("beginning: a quarter", beginning(full, "2"), 4);
    }

    // All promises

    private static void answersChangeNothing() {
        WordLattice x = new WordLattice(6);
        learn(x, "01", 4, 0);
        learn(x, "1", 3, 1);
        x.link(0, 3, 2);
        typeAll(x, "0121");
        spellAll(x, "01");
        for (int round = 0; round < 3; round++) {
            due("again: lookUp", x.lookUp(), 4);
            due("again: beginning", x.beginning(), 1);
            due("again: cost", x.cost(), 15);
            due("again: ways", x.ways(), 1);
            dueStarts("again", x, 0, 2, 3, 4);
        }
        due("again: spelling", x.spell(0), 3);
        due("again: text", x.type(0), 5);
        due("again: link", x.link(0, 3, 2), 2);
    }

    private static void objectsAreApart() {
        WordLattice x = new WordLattice(6);
        WordLattice y = new WordLattice(8);
        learn(x, "01", 4, 0);
        x.link(3, 3, 9);
        typeAll(x, "22");
        due("apart: words", y.beginning(), 0);
        due("apart: spelling", y.spell(0), 1);
        due("apart: text", y.type(2), 1);
        due("apart: text", y.type(2), 2);
        due("apart: cost", y.cost(), 16);
        due("apart: cost of the other", x.cost(), 21);
    }
}
