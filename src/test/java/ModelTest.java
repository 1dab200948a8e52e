import java.util.ArrayList;
import java.util.List;
import java.util.Map;
import java.util.TreeMap;

/**
 * Long mixed runs against a second program that is written straight from the document: it holds rows of letters
 * as strings and tries every one of the cuts of the text. The runs are the same each time.
 */
public final class ModelTest {
    private static final int RUNS = 400;
    private static final int CALLS = 512;

    private static long seed;
    private static int wrong = 0;

    public static void main(String[] args) {
        for (int run = 0; run < RUNS && wrong < 20; run++) {
            seed = run;
            compareRun(run);
        }
        System.out.println(wrong == 0 ? "all answers are as due" : wrong + " answers are not as due");
        if (wrong != 0) {
            System.exit(1);
        }
    }

    /** A fixed row of numbers that look mixed; no source of chance. */
    private static int below(int bound) {
        seed = seed * 6364136223846793005L + 1442695040888963407L;
        return (int) ((seed >>> 33) % bound);
    }

    private static void compareRun(int run) {
        int penalty = below(4) == 0 ? below(140) - 20 : below(12);
        // Few letters and low costs make many words fit and many cuts equally cheap.
        int letters = 1 + below(4);
        int costs = below(3) == 0 ? 100 : 1 + below(6);
        WordLattice x = new WordLattice(penalty);
        Model model = new Model(penalty);
        for (int call = 0; call < CALLS; call++) {
            int[] c = nextCall(letters, costs);
            int got = callProgram(x, c);
            int want = model.call(c);
            if (got != want) {
                wrong++;
                System.out.println("run " + run + ", call " + call + ": number " + c[0] + " (" + c[1] + ", " + c[2] + ", " + c[3]
                    + ") answered " + got + ", due is " + want);
                return;
            }
        }
    }

    private static int[] nextCall(int letters, int costs) {
        int letter = below(letters) + (below(8) == 0 ? 4 * (below(9) - 4) : 0);
        int cost = below(25) == 0 ? below(120) - 10 : below(costs);
        int dice = below(100);
        if (dice < 28) {
            return new int[] {0, letter, 0, 0};
        }
        if (dice < 42) {
            return new int[] {1, cost, below(20) == 0 ? below(7) - 2 : below(3), 0};
        }
        if (dice < 46) {
            return new int[] {2, 0, 0, 0};
        }
        if (dice < 50) {
            return new int[] {3, 0, 0, 0};
        }
        if (dice < 52) {
            return new int[] {4, 0, 0, 0};
        }
        if (dice < 58) {
            return below(8) == 0 ? new int[] {5, below(7) - 2, below(7) - 2, cost} : new int[] {5, below(4), below(4), cost};
        }
        if (dice < 76) {
            return new int[] {6, letter, 0, 0};
        }
        if (dice < 77) {
            return new int[] {7, 0, 0, 0};
        }
        if (dice < 82) {
            return new int[] {8, 0, 0, 0};
        }
        if (dice < 87) {
            return new int[] {9, 0, 0, 0};
        }
        if (dice < 96) {
            return new int[] {10, below(16) - 1, 0, 0};
        }
        return new int[] {11, 0, 0, 0};
    }

    private static int callProgram(WordLattice x, int[] c) {
        switch (c[0]) {
            case 0: return x.spell(c[1]);
            case 1: return x.learn(c[1], c[2]);
            case 2: return x.forget();
            case 3: return x.lookUp();
            case 4: x.clearSpelling(); return 0;
            case 5: return x.link(c[1], c[2], c[3]);
            case 6: return x.type(c[1]);
            case 7: x.clearText(); return 0;
            case 8: return x.cost();
            case 9: return x.ways();
            case 10: return x.start(c[1]);
            default: return x.beginning();
        }
    }

    private static final class Model {
        private final int penalty;
        private final Map<String, int[]> dictionary = new TreeMap<>();
        private final int[][] links = new int[4][4];
        private String spelling = "";
        private String text = "";

        private boolean tried = false;
        private int leastCost;
        private int bestCuts;
        private List<Integer> chosen;

        Model(int penalty) {
            this.penalty = Math.max(1, Math.min(99, penalty));
        }

        int call(int[] c) {
            switch (c[0]) {
                case 0: return spell(c[1]);
                case 1: return learn(c[1], c[2]);
                case 2: return forget();
                case 3: return dictionary.containsKey(spelling) ? dictionary.get(spelling)[0] : -1;
                case 4: spelling = ""; return 0;
                case 5: return link(c[1], c[2], c[3]);
                case 6: return type(c[1]);
                case 7: text = ""; tried = false; return 0;
                case 8: tryAllCuts(); return leastCost;
                case 9: tryAllCuts(); return bestCuts;
                case 10: return start(c[1]);
                default: return (int) dictionary.keySet().stream().filter(w -> w.startsWith(spelling)).count();
            }
        }

        private int spell(int letter) {
            if (spelling.length() == 5) {
                return -1;
            }
            spelling += letter & 3;
            return spelling.length();
        }

        private int learn(int cost, int kind) {
            boolean full = dictionary.size() == 16 && !dictionary.containsKey(spelling);
            if (spelling.isEmpty() || cost < 0 || cost > 99 || kind < 0 || kind > 2 || full) {
                return -1;
            }
            dictionary.put(spelling, new int[] {cost, kind});
            spelling = "";
            tried = false;
            return dictionary.size();
        }

        private int forget() {
            if (dictionary.remove(spelling) == null) {
                return -1;
            }
            spelling = "";
            tried = false;
            return dictionary.size();
        }

        private int link(int k, int l, int cost) {
            if (k < 0 || k > 3 || l < 0 || l > 3 || cost < 0 || cost > 99) {
                return -1;
            }
            int before = links[k][l];
            links[k][l] = cost;
            tried = false;
            return before;
        }

        private int type(int letter) {
            if (text.length() == 12) {
                return -1;
            }
            text += letter & 3;
            tried = false;
            return text.length();
        }

        private int start(int piece) {
            tryAllCuts();
            return piece < 0 || piece >= chosen.size() ? -1 : chosen.get(piece);
        }

        /** A set bit number i of a mask is a border between the letters i and i + 1. */
        private void tryAllCuts() {
            if (tried) {
                return;
            }
            tried = true;
            leastCost = Integer.MAX_VALUE;
            int borders = Math.max(0, text.length() - 1);
            for (int mask = 0; mask < 1 << borders; mask++) {
                List<Integer> places = places(mask);
                int cost = costOf(places);
                if (cost < 0 || cost > leastCost) {
                    continue;
                }
                if (cost < leastCost) {
                    leastCost = cost;
                    bestCuts = 0;
                    chosen = places;
                }
                bestCuts++;
                if (hasLongerFront(places, chosen)) {
                    chosen = places;
                }
            }
        }

        /** The places at which the pieces begin, and the end of the text. */
        private List<Integer> places(int mask) {
            List<Integer> places = new ArrayList<>();
            places.add(0);
            for (int i = 1; i < text.length(); i++) {
                if ((mask >> (i - 1) & 1) == 1) {
                    places.add(i);
                }
            }
            if (!text.isEmpty()) {
                places.add(text.length());
            }
            return places;
        }

        private int costOf(List<Integer> places) {
            int sum = 0;
            int kindBefore = -1;
            for (int i = 0; i + 1 < places.size(); i++) {
                String piece = text.substring(places.get(i), places.get(i + 1));
                int[] word = dictionary.get(piece);
                if (word == null && piece.length() > 1) {
                    return -1;
                }
                int kind = word == null ? 3 : word[1];
                sum += word == null ? penalty : word[0];
                sum += kindBefore < 0 ? 0 : links[kindBefore][kind];
                kindBefore = kind;
            }
            return sum;
        }

        private static boolean hasLongerFront(List<Integer> a, List<Integer> b) {
            for (int i = 0; i < Math.min(a.size(), b.size()); i++) {
                if (!a.get(i).equals(b.get(i))) {
                    return a.get(i) > b.get(i);
                }
            }
            return false;
        }
    }
}
