import java.lang.reflect.InvocationTargetException;
import java.lang.reflect.Method;
import java.util.ArrayList;
import java.util.Comparator;
import java.util.LinkedHashMap;
import java.util.List;
import java.util.Map;
import java.util.function.BiFunction;
import java.util.function.ToIntFunction;

/**
 * Each call that the document refuses answers -1 and changes nothing, and each call that only answers changes
 * nothing. The object that has had the call is held against a twin that has not, and both are looked at by each of
 * the class's calls: spelling, dictionary, link costs and text must look the same.
 *
 * Every method with an underscore in its name is a test; none needs to be listed, so none can be forgotten.
 */
public final class RefusalTest {
    private static final int LEAST = Integer.MIN_VALUE;
    private static final int GREATEST = Integer.MAX_VALUE;

    private static final String[] NO_WORDS = {};
    private static final String[] FEW_WORDS = {"01", "012", "3", "20", "01230"};
    private static final String[] FIFTEEN_WORDS = pairs(15);
    private static final String[] SIXTEEN_WORDS = pairs(16);
    // Words that begin with one another show the letters of a spelling that is no word, even if no word can be learnt.
    private static final String[] SIXTEEN_NESTED_WORDS = {"0", "01", "012", "01230", "1", "10", "103", "1032", "10321", "2", "21", "3",
        "32", "321", "3210", "32103"};
    private static final String FULL_TEXT = "012302013301";

    private static final Map<String, BiFunction<Scene, WordLattice, List<Integer>>> VIEWS = views();

    private static String test = "";
    private static int wrong = 0;

    public static void main(String[] args) throws IllegalAccessException {
        List<Method> tests = new ArrayList<>();
        for (Method m : RefusalTest.class.getDeclaredMethods()) {
            if (m.getName().contains("_") && !m.isSynthetic()) {
                tests.add(m);
            }
        }
        tests.sort(Comparator.comparing(Method::getName));
        for (Method m : tests) {
            run(m);
        }
        System.out.println(tests.size() + " tests, " + (wrong == 0 ? "all answers are as due" : wrong + " answers are not as due"));
        if (wrong != 0 || tests.isEmpty()) {
            System.exit(1);
        }
    }

    private static void run(Method m) throws IllegalAccessException {
        test = m.getName();
        try {
            m.invoke(null);
        } catch (InvocationTargetException e) {
            wrong++;
            System.out.println(test + ": ended with " + e.getCause());
        }
    }

    private static String[] pairs(int words) {
        String[] pairs = new String[words];
        for (int i = 0; i < words; i++) {
            pairs[i] = "" + i / 4 + i % 4;
        }
        return pairs;
    }

    // Scenes: the state in which a call is made

    /** Word number i has cost i + 20 and kind i % 3; all link costs are different. */
    private record Scene(String[] words, String spelling, String text) {
        WordLattice make() {
            WordLattice x = new WordLattice(90);
            for (int i = 0; i < words.length; i++) {
                spell(x, words[i]);
                x.learn(i + 20, i % 3);
            }
            for (int k = 0; k < 4; k++) {
                for (int l = 0; l < 4; l++) {
                    x.link(k, l, 3 + 5 * k + 7 * l);
                }
            }
            type(x, text);
            spell(x, spelling);
            return x;
        }

        @Override
        public String toString() {
            return words.length + " words, spelling '" + spelling + "', text '" + text + "'";
        }
    }

    private static void spell(WordLattice x, String letters) {
        for (int i = 0; i < letters.length(); i++) {
            x.spell(letters.charAt(i) - '0');
        }
    }

    private static void type(WordLattice x, String letters) {
        for (int i = 0; i < letters.length(); i++) {
            x.type(letters.charAt(i) - '0');
        }
    }

    private static Scene[] scenes(String[] words, String... spellings) {
        Scene[] scenes = new Scene[2 * spellings.length];
        for (int i = 0; i < spellings.length; i++) {
            scenes[2 * i] = new Scene(words, spellings[i], "0123");
            scenes[2 * i + 1] = new Scene(words, spellings[i], FULL_TEXT);
        }
        return scenes;
    }

    // Views: what each of the calls shows of a state

    private static Map<String, BiFunction<Scene, WordLattice, List<Integer>>> views() {
        Map<String, BiFunction<Scene, WordLattice, List<Integer>>> views = new LinkedHashMap<>();
        for (int v = 0; v < 4; v++) {
            int letter = v;
            views.put("spell(" + v + ")", (scene, x) -> seenBySpell(x, letter));
            views.put("type(" + v + ")", (scene, x) -> seenByType(x, letter));
            views.put("clearText and type(" + v + ")", (scene, x) -> seenInNewTexts(scene, x, letter));
        }
        views.put("learn", (scene, x) -> seenBehind(x.learn(55, 1), scene, x));
        views.put("forget", (scene, x) -> seenBehind(x.forget(), scene, x));
        views.put("lookUp", (scene, x) -> List.of(x.lookUp()));
        views.put("clearSpelling", RefusalTest::seenByClearSpelling);
        views.put("link", (scene, x) -> seenByLink(x));
        views.put("cost", (scene, x) -> List.of(x.cost()));
        views.put("ways", (scene, x) -> List.of(x.ways()));
        views.put("start", (scene, x) -> seenByStart(x));
        views.put("beginning", (scene, x) -> List.of(x.beginning()));
        return views;
    }

    private static List<Integer> seenBySpell(WordLattice x, int letter) {
        List<Integer> seen = new ArrayList<>();
        for (int i = 0; i < 6; i++) {
            seen.add(x.spell(letter));
            seen.add(x.lookUp());
            seen.add(x.beginning());
        }
        return seen;
    }

    private static List<Integer> seenByType(WordLattice x, int letter) {
        List<Integer> seen = new ArrayList<>();
        for (int i = 0; i < 13; i++) {
            seen.add(x.type(letter));
            seen.add(x.cost());
            seen.add(x.ways());
            seen.addAll(seenByStart(x));
        }
        return seen;
    }

    private static List<Integer> seenByStart(WordLattice x) {
        List<Integer> seen = new ArrayList<>();
        for (int piece = -1; piece <= 13; piece++) {
            seen.add(x.start(piece));
        }
        return seen;
    }

    private static List<Integer> seenByLink(WordLattice x) {
        List<Integer> seen = new ArrayList<>();
        for (int k = 0; k < 4; k++) {
            for (int l = 0; l < 4; l++) {
                seen.add(x.link(k, l, 0));
            }
        }
        return seen;
    }

    /** The letter behind each word shows the word's kind by its link cost. */
    private static List<Integer> seenInNewTexts(Scene scene, WordLattice x, int letter) {
        List<Integer> seen = new ArrayList<>();
        x.clearText();
        seen.add(x.cost());
        for (String word : scene.words()) {
            x.clearText();
            type(x, word);
            seen.add(x.cost());
            seen.add(x.type(letter));
            seen.add(x.cost());
        }
        return seen;
    }

    private static List<Integer> seenByClearSpelling(Scene scene, WordLattice x) {
        x.clearSpelling();
        return dictionary(scene, x);
    }

    /** The spelling of the scene is looked up too: learn makes it a word. */
    private static List<Integer> dictionary(Scene scene, WordLattice x) {
        List<Integer> seen = new ArrayList<>();
        seen.add(x.lookUp());
        seen.add(x.beginning());
        for (String word : scene.words()) {
            x.clearSpelling();
            spell(x, word);
            seen.add(x.lookUp());
        }
        x.clearSpelling();
        spell(x, scene.spelling());
        seen.add(x.lookUp());
        return seen;
    }

    private static List<Integer> seenBehind(int answer, Scene scene, WordLattice x) {
        List<Integer> seen = new ArrayList<>();
        seen.add(answer);
        seen.addAll(dictionary(scene, x));
        seen.add(x.cost());
        seen.add(x.ways());
        seen.addAll(seenByStart(x));
        return seen;
    }

    // The comparison

    private static void refused(String call, Scene[] scenes, ToIntFunction<WordLattice> made) {
        for (Scene scene : scenes) {
            int answer = made.applyAsInt(scene.make());
            if (answer != -1) {
                wrong++;
                System.out.println(test + ": " + call + " with " + scene + " answered " + answer + ", due is -1");
            }
            changesNothing(call, scene, made);
        }
    }

    /** The call is made once and twice: what it changes may show at the second time only. */
    private static void changesNothing(String call, Scene scene, ToIntFunction<WordLattice> made) {
        for (String view : VIEWS.keySet()) {
            for (int times = 1; times <= 2; times++) {
                WordLattice x = scene.make();
                WordLattice twin = scene.make();
                for (int time = 0; time < times; time++) {
                    made.applyAsInt(x);
                }
                List<Integer> seen = VIEWS.get(view).apply(scene, x);
                List<Integer> due = VIEWS.get(view).apply(scene, twin);
                if (!seen.equals(due)) {
                    wrong++;
                    System.out.println(test + ": after " + call + " with " + scene + ", " + view + " shows " + seen + ", due is " + due);
                }
            }
        }
    }

    private static void onlyAnswers(String call, Scene[] scenes, ToIntFunction<WordLattice> made) {
        for (Scene scene : scenes) {
            changesNothing(call, scene, made);
        }
    }

    // Promise 2

    private static void promise2_spellWithFiveLetters() {
        int[] letters = {LEAST, -1, 0, 1, 2, 3, 4, GREATEST};
        for (int letter : letters) {
            String call = "spell(" + letter + ")";
            refused(call, scenes(NO_WORDS, "01230"), x -> x.spell(letter));
            refused(call, scenes(FEW_WORDS, "01230", "33333"), x -> x.spell(letter));
            refused(call, scenes(SIXTEEN_WORDS, "00000", "32103"), x -> x.spell(letter));
        }
    }

    // Promise 3

    private static void promise3_learnWithEmptySpelling() {
        int[][] taken = {{0, 0}, {5, 1}, {99, 2}};
        for (int[] t : taken) {
            String call = "learn(" + t[0] + ", " + t[1] + ")";
            refused(call, scenes(NO_WORDS, ""), x -> x.learn(t[0], t[1]));
            refused(call, scenes(FEW_WORDS, ""), x -> x.learn(t[0], t[1]));
            refused(call, scenes(FIFTEEN_WORDS, ""), x -> x.learn(t[0], t[1]));
            refused(call, scenes(SIXTEEN_WORDS, ""), x -> x.learn(t[0], t[1]));
        }
    }

    private static void refusedToLearn(int cost, int kind) {
        String call = "learn(" + cost + ", " + kind + ")";
        refused(call, scenes(NO_WORDS, "", "0", "01230"), x -> x.learn(cost, kind));
        refused(call, scenes(FEW_WORDS, "", "01", "02", "01230", "33333"), x -> x.learn(cost, kind));
        refused(call, scenes(FIFTEEN_WORDS, "32", "33"), x -> x.learn(cost, kind));
        refused(call, scenes(SIXTEEN_WORDS, "", "00", "33", "012"), x -> x.learn(cost, kind));
        refused(call, scenes(SIXTEEN_NESTED_WORDS, "01230", "0123"), x -> x.learn(cost, kind));
    }

    private static void promise3_learnWithCostBelow0() {
        for (int kind = 0; kind <= 2; kind++) {
            refusedToLearn(-1, kind);
            refusedToLearn(LEAST, kind);
        }
    }

    private static void promise3_learnWithCostAbove99() {
        for (int kind = 0; kind <= 2; kind++) {
            refusedToLearn(100, kind);
            refusedToLearn(GREATEST, kind);
        }
    }

    private static void promise3_learnWithKindBelow0() {
        int[] costs = {0, 99};
        for (int cost : costs) {
            refusedToLearn(cost, -1);
            refusedToLearn(cost, LEAST);
        }
    }

    private static void promise3_learnWithKindAbove2() {
        int[] costs = {0, 99};
        for (int cost : costs) {
            refusedToLearn(cost, 3);
            refusedToLearn(cost, 4);
            refusedToLearn(cost, GREATEST);
        }
    }

    private static void promise3_learnOfASeventeenthWord() {
        int[][] taken = {{0, 0}, {5, 1}, {99, 2}};
        for (int[] t : taken) {
            String call = "learn(" + t[0] + ", " + t[1] + ")";
            refused(call, scenes(SIXTEEN_WORDS, "0", "3", "000", "012", "0123", "33333"), x -> x.learn(t[0], t[1]));
            refused(call, scenes(SIXTEEN_NESTED_WORDS, "0123", "00", "11", "2000", "00000"), x -> x.learn(t[0], t[1]));
        }
    }

    // Promise 4

    private static void promise4_forgetWithEmptySpelling() {
        refused("forget()", scenes(NO_WORDS, ""), WordLattice::forget);
        refused("forget()", scenes(FEW_WORDS, ""), WordLattice::forget);
        refused("forget()", scenes(SIXTEEN_WORDS, ""), WordLattice::forget);
    }

    private static void promise4_forgetOfNoWord() {
        refused("forget()", scenes(NO_WORDS, "0", "01230"), WordLattice::forget);
        refused("forget()", scenes(FEW_WORDS, "0", "10", "0123", "30", "33333"), WordLattice::forget);
        refused("forget()", scenes(FIFTEEN_WORDS, "33"), WordLattice::forget);
        refused("forget()", scenes(SIXTEEN_WORDS, "0", "3", "000", "012", "33333"), WordLattice::forget);
        refused("forget()", scenes(SIXTEEN_NESTED_WORDS, "0123", "00", "11", "2000", "00000"), WordLattice::forget);
    }

    // Promise 7

    private static void refusedToLink(int k, int l, int cost) {
        String call = "link(" + k + ", " + l + ", " + cost + ")";
        refused(call, scenes(NO_WORDS, ""), x -> x.link(k, l, cost));
        refused(call, scenes(FEW_WORDS, "", "01"), x -> x.link(k, l, cost));
        refused(call, scenes(SIXTEEN_NESTED_WORDS, "0123"), x -> x.link(k, l, cost));
    }

    private static void promise7_linkWithKindBelow0() {
        int[] kinds = {-1, LEAST};
        for (int kind : kinds) {
            for (int other = 0; other < 4; other++) {
                refusedToLink(kind, other, 0);
                refusedToLink(other, kind, 99);
            }
        }
    }

    private static void promise7_linkWithKindAbove3() {
        int[] kinds = {4, 5, GREATEST};
        for (int kind : kinds) {
            for (int other = 0; other < 4; other++) {
                refusedToLink(kind, other, 99);
                refusedToLink(other, kind, 99);
            }
        }
    }

    private static void promise7_linkWithCostBelow0() {
        for (int k = 0; k < 4; k++) {
            refusedToLink(k, 3, -1);
            refusedToLink(3, k, LEAST);
        }
    }

    private static void promise7_linkWithCostAbove99() {
        for (int k = 0; k < 4; k++) {
            refusedToLink(k, 3, 100);
            refusedToLink(3, k, GREATEST);
        }
    }

    // Promise 8

    private static void promise8_typeWithTwelveLetters() {
        int[] letters = {LEAST, -1, 0, 1, 2, 3, 4, GREATEST};
        for (int letter : letters) {
            Scene[] full = {new Scene(NO_WORDS, "", FULL_TEXT), new Scene(FEW_WORDS, "01", FULL_TEXT),
                new Scene(FEW_WORDS, "33333", "333333333333"), new Scene(SIXTEEN_NESTED_WORDS, "0123", FULL_TEXT)};
            refused("type(" + letter + ")", full, x -> x.type(letter));
        }
    }

    // Promises 5 and 10 to 13: calls that only answer

    private static Scene[] manyScenes() {
        return new Scene[] {new Scene(NO_WORDS, "", ""), new Scene(NO_WORDS, "01230", FULL_TEXT),
            new Scene(FEW_WORDS, "", ""), new Scene(FEW_WORDS, "", "0123"), new Scene(FEW_WORDS, "01", "0123"),
            new Scene(FEW_WORDS, "0", FULL_TEXT), new Scene(FEW_WORDS, "01230", FULL_TEXT),
            new Scene(SIXTEEN_WORDS, "", ""), new Scene(SIXTEEN_WORDS, "33", "0123"),
            new Scene(SIXTEEN_NESTED_WORDS, "0123", FULL_TEXT)};
    }

    private static void promise5_lookUpChangesNothing() {
        onlyAnswers("lookUp()", manyScenes(), WordLattice::lookUp);
    }

    private static void promise10_costChangesNothing() {
        onlyAnswers("cost()", manyScenes(), WordLattice::cost);
    }

    private static void promise11_waysChangesNothing() {
        onlyAnswers("ways()", manyScenes(), WordLattice::ways);
    }

    private static void promise12_startChangesNothing() {
        int[] pieces = {LEAST, -1, 0, 1, 2, 12, 13, GREATEST};
        for (int piece : pieces) {
            onlyAnswers("start(" + piece + ")", manyScenes(), x -> x.start(piece));
        }
    }

    private static void promise12_startOutsideThePieces() {
        int[] pieces = {LEAST, -1, 13, GREATEST};
        for (int piece : pieces) {
            refused("start(" + piece + ")", manyScenes(), x -> x.start(piece));
        }
    }

    private static void promise12_startBehindTheEndOfFewPieces() {
        // The chosen cut is 012 3: two pieces, and the end is number 2.
        for (int piece = 3; piece <= 5; piece++) {
            int behind = piece;
            Scene[] few = {new Scene(FEW_WORDS, "", "0123"), new Scene(FEW_WORDS, "01", "0123")};
            refused("start(" + piece + ")", few, x -> x.start(behind));
        }
    }

    private static void promise13_beginningChangesNothing() {
        onlyAnswers("beginning()", manyScenes(), WordLattice::beginning);
    }
}
