import java.util.ArrayList;
import java.util.HashSet;
import java.util.List;
import java.util.Set;

/**
 * Long mixed runs of calls, each answer compared with that of a model that follows the document word by word:
 * it keeps nothing but the statements, and looks for a matching ELSE or END only when it has to go there.
 */
public final class LeakageMeterAgainstModel {
    private static final int RUNS = 400;
    private static final int CALLS = 512;
    private static final int OUT = 12, IF = 13, ELSE = 14, END = 15;

    private static int wrong = 0;
    private static long state = 1;

    /** The same numbers in every run of the test. */
    private static int number(int bound) {
        state = state * 6364136223846793005L + 1442695040888963407L;
        return (int) ((state >>> 33) % bound);
    }

    private static final List<int[]> row = new ArrayList<>();

    /** For each open part, from the outmost, whether it has an ELSE. */
    private static List<Boolean> openParts() {
        List<Boolean> parts = new ArrayList<>();
        for (int[] statement : row) {
            int last = parts.size() - 1;
            if (statement[0] == IF) {
                parts.add(false);
            } else if (statement[0] == ELSE) {
                parts.set(last, true);
            } else if (statement[0] == END) {
                parts.remove(last);
            }
        }
        return parts;
    }

    private static int modelAdd(int code, int a, int b) {
        List<Boolean> parts = openParts();
        boolean none = parts.isEmpty();
        boolean refused = code < 0 || code > 15 || row.size() == 40
            || code == IF && parts.size() == 4
            || code == ELSE && (none || parts.get(parts.size() - 1))
            || code == END && none;
        if (refused) {
            return -1;
        }
        row.add(new int[] {code, a, b});
        return row.size();
    }

    /** The place behind the matching END, or behind the matching ELSE if that is looked for and comes first. */
    private static int behindMatch(int at, boolean elseToo) {
        int depth = 0;
        for (int i = at + 1; i < row.size(); i++) {
            int code = row.get(i)[0];
            if (depth == 0 && (code == END || code == ELSE && elseToo)) {
                return i + 1;
            }
            depth += code == IF ? 1 : code == END ? -1 : 0;
        }
        return row.size();
    }

    /** The end values; the outputs, all of them, are added to the list given. */
    private static int[] modelRun(int secret, List<Integer> outputs) {
        int[] v = {secret, 0, 0, 0};
        int at = 0;
        while (at < row.size()) {
            int[] s = row.get(at);
            int x = s[1] & 3, y = s[2] & 3, power = 1 << (s[2] & 7);
            int next = at + 1;
            switch (s[0]) {
                case 0 -> v[x] = s[2] & 255;
                case 1 -> v[x] = v[y];
                case 2 -> v[x] = Math.floorMod(v[x] + v[y], 256);
                case 3 -> v[x] = Math.floorMod(v[x] - v[y], 256);
                case 4 -> v[x] = Math.floorMod(v[x] * v[y], 256);
                case 5 -> v[x] = v[x] & v[y];
                case 6 -> v[x] = v[x] | v[y];
                case 7 -> v[x] = v[x] ^ v[y];
                case 8 -> v[x] = Math.floorMod(v[x] * power, 256);
                case 9 -> v[x] = v[x] / power;
                case 10 -> v[x] = v[x] < v[y] ? 1 : 0;
                case 11 -> v[x] = v[x] == v[y] ? 1 : 0;
                case OUT -> outputs.add(v[x]);
                case IF -> next = v[x] != 0 ? next : behindMatch(at, true);
                case ELSE -> next = behindMatch(at, false);
                default -> { }
            }
            at = next;
        }
        return v;
    }

    private static List<Integer> modelView(int secret) {
        List<Integer> outputs = new ArrayList<>();
        modelRun(secret, outputs);
        return outputs.subList(0, Math.min(7, outputs.size()));
    }

    private static int modelLeast(int secret) {
        int least = 0;
        while (!modelView(least).equals(modelView(secret))) {
            least++;
        }
        return least;
    }

    private static int modelAlike(int secret) {
        int count = 0;
        for (int other = 0; other < 64; other++) {
            count += modelView(other).equals(modelView(secret)) ? 1 : 0;
        }
        return count;
    }

    private static int modelOutput(int secret, int place) {
        List<Integer> view = modelView(secret);
        return place >= 0 && place < view.size() ? view.get(place) : -1;
    }

    private static int modelGuessed(int from, int to) {
        Set<List<Integer>> views = new HashSet<>();
        for (int secret = Math.min(from & 63, to & 63); secret <= Math.max(from & 63, to & 63); secret++) {
            views.add(modelView(secret));
        }
        return views.size();
    }

    /** Mostly a number that means something, now and then one far outside. */
    private static int argument(int bound) {
        int kind = number(12);
        return kind == 0 ? -1 - number(300) : kind == 1 ? bound + number(300)
            : kind == 2 ? (int) (state >>> 20) : number(bound);
    }

    private static int someCode() {
        int kind = number(10);
        return kind == 0 ? argument(16) : kind < 4 ? IF + number(3) : kind < 6 ? OUT : number(12);
    }

    private static void due(int run, int call, String what, int got, int want) {
        if (got != want && wrong++ < 50) {
            System.out.println("run " + run + ", call " + call + ": " + what + " answered " + got + ", due is " + want);
        }
    }

    private static void oneCall(LeakageMeter meter, int run, int call) {
        int s = argument(64), p = argument(8), code = someCode(), b = argument(256);
        switch (number(20)) {
            case 0 -> due(run, call, "open()", meter.open(), openParts().size());
            case 1 -> due(run, call, "classes()", meter.classes(), modelGuessed(0, 63));
            case 2 -> due(run, call, "least(" + s + ")", meter.least(s), modelLeast(s & 63));
            case 3 -> due(run, call, "alike(" + s + ")", meter.alike(s), modelAlike(s & 63));
            case 4 -> due(run, call, "outputs(" + s + ")", meter.outputs(s), modelView(s & 63).size());
            case 5, 6 -> due(run, call, "output(" + s + ", " + p + ")", meter.output(s, p), modelOutput(s & 63, p));
            case 7, 8 -> due(run, call, "end(" + s + ", " + p + ")", meter.end(s, p),
                modelRun(s & 63, new ArrayList<>())[p & 3]);
            case 9 -> due(run, call, "guessed(" + s + ", " + b + ")", meter.guessed(s, b), modelGuessed(s, b));
            case 10 -> {
                if (number(row.size() == 40 ? 2 : 12) == 0) {
                    meter.clear();
                    row.clear();
                }
            }
            default -> due(run, call, "add(" + code + ", " + p + ", " + b + ")",
                meter.add(code, p, b), modelAdd(code, p, b));
        }
    }

    public static void main(String[] args) {
        for (int run = 1; run <= RUNS; run++) {
            LeakageMeter meter = new LeakageMeter();
            row.clear();
            for (int call = 1; call <= CALLS; call++) {
                oneCall(meter, run, call);
            }
        }
        System.out.println(wrong == 0 ? "all answers are as due" : wrong + " answers are not as due");
        if (wrong != 0) {
            System.exit(1);
        }
    }
}
