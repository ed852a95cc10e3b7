import java.util.ArrayList;
import java.util.List;
import java.util.Random;

/** Long runs of calls chosen at random (always the same ones), each held against a model read off the document. */
public final class ModelTest {
    private static final int[] ODD = {-1, 4, 12, 50, 51, 1000, 1001, Integer.MAX_VALUE, Integer.MIN_VALUE};
    private static final String[] CALLS = {"clear", "job", "operation", "before", "free", "arc", "told", "length",
        "load", "select", "solve", "optima", "at", "draft", "check", "adopt", "count"};
    private static final int[] WEIGHTS = {1, 12, 60, 40, 12, 12, 60, 8, 16, 25, 10, 10, 30, 50, 30, 8, 40};

    public static void main(String[] args) {
        int wrong = 0;
        int runs = 600;
        for (int run = 0; run < runs && wrong < 10; run++) {
            wrong += oneRun(run, new Random(7919L * run + 1));
        }
        System.out.println(wrong == 0 ? runs + " runs are as the model's" : wrong + " runs went wrong");
        if (wrong != 0) {
            System.exit(1);
        }
    }

    private static int oneRun(int run, Random random) {
        JobShop shop = new JobShop();
        Model model = new Model();
        int longest = run % 3 == 0 ? 4 : run % 3 == 1 ? 12 : 50;
        StringBuilder story = new StringBuilder();
        for (int n = 0; n < 512; n++) {
            String call = pick(random);
            if (call.equals("clear") && random.nextInt(3) != 0) {
                continue;
            }
            int[] a = arguments(call, model, random, longest);
            int got = ask(shop, call, a);
            int due = model.ask(call, a);
            story.append(call).append(java.util.Arrays.toString(a)).append(" = ").append(got).append('\n');
            if (got != due) {
                System.out.println("run " + run + ", due is " + due + ":\n" + story);
                return 1;
            }
        }
        return 0;
    }

    private static String pick(Random random) {
        int sum = 0;
        for (int w : WEIGHTS) {
            sum += w;
        }
        int at = random.nextInt(sum);
        int i = 0;
        while (at >= WEIGHTS[i]) {
            at -= WEIGHTS[i++];
        }
        return CALLS[i];
    }

    private static int[] arguments(String call, Model m, Random r, int longest) {
        int ops = Math.max(1, m.job.size());
        int[] a = {0, 0, 0};
        switch (call) {
            case "operation" -> a = new int[] {r.nextInt(4), r.nextInt(4), 1 + r.nextInt(longest)};
            case "before", "free", "arc" -> {
                a = new int[] {r.nextInt(ops), r.nextInt(ops), 0};
                for (int n = 0; n < 20 && !m.pair(a[0], a[1]); n++) {
                    a = new int[] {r.nextInt(ops), r.nextInt(ops), 0};
                }
            }
            case "told" -> a = new int[] {r.nextInt(ops), r.nextInt(7), 0};
            case "load" -> a[0] = r.nextInt(4);
            case "select" -> {
                int near = m.bound();
                a[0] = r.nextInt(4) == 0 ? r.nextInt(600) : near - 2 + r.nextInt(near / 4 + 4);
            }
            case "at" -> a = new int[] {r.nextInt(4), r.nextInt(Math.max(4, m.planned ? m.least + 2 : 40)), 0};
            case "draft" -> {
                int i = r.nextInt(ops);
                int near = m.job.isEmpty() || r.nextInt(8) == 0 ? r.nextInt(1001) : m.draft.get(i) + r.nextInt(9) - 4;
                a = new int[] {i, near, 0};
            }
            case "count" -> a[0] = r.nextInt(6);
            default -> { }
        }
        if (r.nextInt(12) == 0) {
            a[r.nextInt(3)] = ODD[r.nextInt(ODD.length)];
        }
        return a;
    }

    private static int ask(JobShop x, String call, int[] a) {
        return switch (call) {
            case "clear" -> x.clear();
            case "job" -> x.job();
            case "operation" -> x.operation(a[0], a[1], a[2]);
            case "before" -> x.before(a[0], a[1]);
            case "free" -> x.free(a[0], a[1]);
            case "arc" -> x.arc(a[0], a[1]);
            case "told" -> x.told(a[0], a[1]);
            case "length" -> x.length();
            case "load" -> x.load(a[0]);
            case "select" -> x.select(a[0]);
            case "solve" -> x.solve();
            case "optima" -> x.optima();
            case "at" -> x.at(a[0], a[1]);
            case "draft" -> x.draft(a[0], a[1]);
            case "check" -> x.check();
            case "adopt" -> x.adopt();
            default -> x.count(a[0]);
        };
    }

    /** The document's words, as near to the letter as can be, whatever they cost. */
    private static final class Model {
        int jobs = 0;
        final List<Integer> job = new ArrayList<>();
        final List<Integer> machine = new ArrayList<>();
        final List<Integer> duration = new ArrayList<>();
        final List<Integer> draft = new ArrayList<>();
        boolean[][] arc = new boolean[12][12];
        boolean planned = false;
        int least;
        int optima;
        int[] plan;

        int ask(String call, int[] a) {
            return switch (call) {
                case "clear" -> clear();
                case "job" -> jobs == 4 ? -3 : jobs++;
                case "operation" -> operation(a[0], a[1], a[2]);
                case "before" -> before(a[0], a[1]);
                case "free" -> free(a[0], a[1]);
                case "arc" -> !pair(a[0], a[1]) ? -2 : arc[a[0]][a[1]] ? 1 : 0;
                case "told" -> told(a[0], a[1]);
                case "length" -> length();
                case "load" -> a[0] < 0 || a[0] > 3 ? -2 : load(a[0]);
                case "select" -> select(a[0]);
                case "solve" -> solve();
                case "optima" -> planned ? optima : -1;
                case "at" -> at(a[0], a[1]);
                case "draft" -> a[0] < 0 || a[0] >= job.size() || a[1] < 0 || a[1] > 1000 ? -2 : draft.set(a[0], a[1]);
                case "check" -> check();
                case "adopt" -> adopt();
                default -> count(a[0]);
            };
        }

        int clear() {
            int had = job.size();
            jobs = 0;
            job.clear();
            machine.clear();
            duration.clear();
            draft.clear();
            arc = new boolean[12][12];
            planned = false;
            return had;
        }

        int operation(int j, int m, int d) {
            if (j < 0 || j >= jobs || m < 0 || m > 3 || d < 1 || d > 50) {
                return -2;
            }
            for (int i = 0; i < job.size(); i++) {
                if (job.get(i) == j && machine.get(i) == m) {
                    return -2;
                }
            }
            if (job.size() == 12) {
                return -3;
            }
            job.add(j);
            machine.add(m);
            duration.add(d);
            draft.add(0);
            draft.replaceAll(x -> 0);
            planned = false;
            return job.size() - 1;
        }

        boolean pair(int a, int b) {
            int n = job.size();
            return a >= 0 && b >= 0 && a < n && b < n && a != b && machine.get(a).equals(machine.get(b));
        }

        boolean step(int a, int b) {
            if (arc[a][b]) {
                return true;
            }
            if (!job.get(a).equals(job.get(b)) || b <= a) {
                return false;
            }
            for (int k = a + 1; k < b; k++) {
                if (job.get(k).equals(job.get(a))) {
                    return false;
                }
            }
            return true;
        }

        boolean path(int a, int b) {
            for (int k = 0; k < job.size(); k++) {
                if (step(a, k) && (k == b || path(k, b))) {
                    return true;
                }
            }
            return false;
        }

        int head(int b) {
            int most = 0;
            for (int k = 0; k < job.size(); k++) {
                if (step(k, b)) {
                    most = Math.max(most, head(k) + duration.get(k));
                }
            }
            return most;
        }

        int tail(int a) {
            int most = 0;
            for (int k = 0; k < job.size(); k++) {
                if (step(a, k)) {
                    most = Math.max(most, duration.get(k) + tail(k));
                }
            }
            return most;
        }

        int length() {
            int most = 0;
            for (int i = 0; i < job.size(); i++) {
                most = Math.max(most, head(i) + duration.get(i) + tail(i));
            }
            return most;
        }

        /** One unit of time after the other, always the one with the greatest tail among those that may go on. */
        int load(int m) {
            int n = job.size();
            int[] left = new int[n];
            int open = 0;
            for (int i = 0; i < n; i++) {
                left[i] = machine.get(i) == m ? duration.get(i) : 0;
                open += left[i];
            }
            int over = 0;
            for (int time = 0; open > 0; time++) {
                int best = -1;
                for (int i = 0; i < n; i++) {
                    if (left[i] > 0 && head(i) <= time && (best < 0 || tail(i) > tail(best))) {
                        best = i;
                    }
                }
                if (best >= 0) {
                    left[best]--;
                    open--;
                    over = Math.max(over, time + 1 + tail(best));
                }
            }
            return over;
        }

        int bound() {
            int most = length();
            for (int m = 0; m < 4; m++) {
                most = Math.max(most, load(m));
            }
            return most;
        }

        int before(int a, int b) {
            if (!pair(a, b)) {
                return -2;
            }
            if (path(b, a)) {
                return -4;
            }
            if (arc[a][b]) {
                return 0;
            }
            arc[a][b] = true;
            planned = false;
            return 1;
        }

        int free(int a, int b) {
            if (!pair(a, b)) {
                return -2;
            }
            if (!arc[a][b] && !arc[b][a]) {
                return 0;
            }
            arc[a][b] = false;
            arc[b][a] = false;
            planned = false;
            return 1;
        }

        int told(int i, int what) {
            if (i < 0 || i >= job.size()) {
                return -1;
            }
            return switch (what) {
                case 0 -> job.get(i);
                case 1 -> machine.get(i);
                case 2 -> duration.get(i);
                case 3 -> head(i);
                case 4 -> tail(i);
                case 5 -> head(i) + duration.get(i) + tail(i) == length() ? 1 : 0;
                case 6 -> planned ? plan[i] : -1;
                default -> -2;
            };
        }

        boolean forced(int a, int b, int below) {
            return head(b) + duration.get(a) + duration.get(b) + tail(a) >= below;
        }

        int select(int below) {
            boolean[][] kept = copy(arc);
            int made = force(below);
            if (made < 0 || length() >= below) {
                arc = kept;
                return -5;
            }
            planned = planned && made == 0;
            return made;
        }

        int force(int below) {
            int n = job.size();
            int made = 0;
            boolean more = true;
            while (more) {
                more = false;
                // From the last pair on, other than the program, since no order may matter.
                for (int a = n - 1; a >= 0; a--) {
                    for (int b = n - 1; b >= 0; b--) {
                        if (pair(a, b) && !arc[a][b] && !arc[b][a] && forced(a, b, below)) {
                            if (forced(b, a, below) || path(b, a)) {
                                return -1;
                            }
                            arc[a][b] = true;
                            made++;
                            more = true;
                        }
                    }
                }
            }
            return made;
        }

        static boolean[][] copy(boolean[][] rows) {
            boolean[][] all = new boolean[rows.length][];
            for (int i = 0; i < rows.length; i++) {
                all[i] = rows[i].clone();
            }
            return all;
        }

        int solve() {
            least = Integer.MAX_VALUE;
            optima = 0;
            orient(0, 0);
            planned = true;
            return least;
        }

        /** Both ways for each pair without an arc, but for those that close a path. */
        void orient(int a, int b) {
            int n = job.size();
            if (a >= n) {
                weigh();
            } else if (b >= n) {
                orient(a + 1, a + 2);
            } else if (!pair(a, b) || arc[a][b] || arc[b][a]) {
                orient(a, b + 1);
            } else {
                boolean back = path(b, a);
                boolean forth = path(a, b);
                if (!back) {
                    arc[a][b] = true;
                    orient(a, b + 1);
                    arc[a][b] = false;
                }
                if (!forth) {
                    arc[b][a] = true;
                    orient(a, b + 1);
                    arc[b][a] = false;
                }
            }
        }

        void weigh() {
            int n = job.size();
            int[] heads = new int[n];
            int makespan = 0;
            boolean[] known = new boolean[n];
            for (int i = 0; i < n; i++) {
                makespan = Math.max(makespan, quickHead(i, heads, known) + duration.get(i));
            }
            if (makespan < least) {
                least = makespan;
                optima = 0;
            }
            if (makespan == least) {
                optima++;
                if (optima == 1 || java.util.Arrays.compare(heads, plan) < 0) {
                    plan = heads;
                }
            }
        }

        /** A full selection has too many paths to walk each of them. */
        int quickHead(int i, int[] heads, boolean[] known) {
            if (!known[i]) {
                known[i] = true;
                for (int k = 0; k < job.size(); k++) {
                    if (step(k, i)) {
                        heads[i] = Math.max(heads[i], quickHead(k, heads, known) + duration.get(k));
                    }
                }
            }
            return heads[i];
        }

        int at(int m, int time) {
            if (m < 0 || m > 3) {
                return -2;
            }
            for (int i = 0; planned && i < job.size(); i++) {
                if (machine.get(i) == m && time >= plan[i] && time - plan[i] < duration.get(i)) {
                    return i;
                }
            }
            return -1;
        }

        int check() {
            int n = job.size();
            int makespan = 0;
            for (int a = 0; a < n; a++) {
                for (int b = 0; b < n; b++) {
                    if (step(a, b) && draft.get(a) + duration.get(a) > draft.get(b)) {
                        return -10 - a;
                    }
                }
                makespan = Math.max(makespan, draft.get(a) + duration.get(a));
            }
            for (int a = 0; a < n; a++) {
                for (int b = a + 1; b < n; b++) {
                    for (int time = 0; pair(a, b) && time < 1050; time++) {
                        if (underWay(a, time) && underWay(b, time)) {
                            return -30 - a;
                        }
                    }
                }
            }
            return makespan;
        }

        boolean underWay(int i, int time) {
            return draft.get(i) <= time && time < draft.get(i) + duration.get(i);
        }

        int adopt() {
            if (!planned) {
                return -1;
            }
            for (int i = 0; i < job.size(); i++) {
                draft.set(i, plan[i]);
            }
            return least;
        }

        int count(int what) {
            int arcs = 0;
            int pairs = 0;
            for (int a = 0; a < job.size(); a++) {
                for (int b = 0; b < job.size(); b++) {
                    arcs += arc[a][b] ? 1 : 0;
                    pairs += a < b && pair(a, b) && !arc[a][b] && !arc[b][a] ? 1 : 0;
                }
            }
            return switch (what) {
                case 0 -> jobs;
                case 1 -> job.size();
                case 2 -> arcs;
                case 3 -> pairs;
                case 4 -> bound();
                case 5 -> planned ? least : -1;
                default -> -2;
            };
        }
    }
}
