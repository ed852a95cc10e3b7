import java.util.ArrayList;
import java.util.Arrays;
import java.util.List;
import java.util.Random;

/**
 * The terms of the document on shops drawn at random (always the same ones), each term by the letter of its sentence:
 * paths are walked one by one, selections are all orders on all machines, and THE LOAD is both what its sentence and
 * what its bracket says.
 */
public final class TermsTest {
    private static final int SHOPS = 1500;
    private static final int FEW_DRAFTS = 6;
    private static int wrong = 0;

    public static void main(String[] args) {
        for (int n = 0; n < SHOPS && wrong < 20; n++) {
            Drawn drawn = new Drawn(n, new Random(104729L * n + 3));
            JobShop x = drawn.shop();
            heads(drawn, x);
            loads(drawn, x);
            plan(drawn, x);
            drafts(drawn, x);
            forced(drawn);
        }
        System.out.println(wrong == 0 ? SHOPS + " shops are as the terms say" : wrong + " answers are wrong");
        if (wrong != 0) {
            System.exit(1);
        }
    }

    private static void due(String what, int got, int want) {
        if (got != want) {
            wrong++;
            System.out.println(what + " answered " + got + ", due is " + want);
        }
    }

    /** OPERATIONS, PATH, HEAD, TAIL and LENGTH. */
    private static void heads(Drawn s, JobShop x) {
        int longest = 0;
        for (int i = 0; i < s.size; i++) {
            longest = Math.max(longest, s.head(i) + s.duration[i] + s.tail(i));
        }
        due(s + "LENGTH", x.length(), longest);
        for (int i = 0; i < s.size; i++) {
            int through = s.head(i) + s.duration[i] + s.tail(i);
            int[] want = {s.job[i], s.machine[i], s.duration[i], s.head(i), s.tail(i), through == longest ? 1 : 0};
            for (int what = 0; what < want.length; what++) {
                due(s + "told " + i + " " + what, x.told(i, what), want[what]);
            }
        }
    }

    private static void loads(Drawn s, JobShop x) {
        int most = x.length();
        for (int m = 0; m < 4; m++) {
            int bracket = s.greatestSum(m);
            due(s + "LOAD of " + m, x.load(m), bracket);
            if (s.longest <= 3) {
                due(s + "LOAD of " + m + " by its sentence", x.load(m), s.leastTime(m));
            }
            most = Math.max(most, bracket);
        }
        due(s + "the greatest of LENGTH and all LOADS", x.count(4), most);
    }

    /** SELECTION, MAKESPAN, STARTS, LEAST, OPTIMA and THE PLAN. */
    private static void plan(Drawn s, JobShop x) {
        s.weighAllSelections();
        due(s + "LEAST", x.solve(), s.least);
        due(s + "LEAST told", x.count(5), s.least);
        due(s + "OPTIMA", x.optima(), s.optima.size());
        int[] first = s.optima.get(0);
        for (int[] starts : s.optima) {
            first = Arrays.compare(starts, first) < 0 ? starts : first;
        }
        for (int i = 0; i < s.size; i++) {
            due(s + "START of " + i, x.told(i, 6), first[i]);
            due(s + "at the beginning of " + i, x.at(s.machine[i], first[i]), i);
            due(s + "at the end of " + i, x.at(s.machine[i], first[i] + s.duration[i] - 1), i);
        }
    }

    /** STARTS of each of OPTIMA are a draft without a fault. */
    private static void drafts(Drawn s, JobShop x) {
        due(s + "adopted", x.adopt(), s.least);
        due(s + "adopted and checked", x.check(), s.least);
        for (int k = 0; k < Math.min(FEW_DRAFTS, s.optima.size()); k++) {
            int[] starts = s.optima.get(s.optima.size() - 1 - k);
            for (int i = 0; i < s.size; i++) {
                x.draft(i, starts[i]);
            }
            due(s + "STARTS as a draft", x.check(), s.least);
        }
    }

    /** Arcs that are forced below a number are in each selection below it, so no such selection goes. */
    private static void forced(Drawn s) {
        JobShop x = s.shop();
        int had = x.count(2);
        int made = x.select(s.least + 1);
        due(s + "there is a way to LEAST", made < 0 ? made : 0, 0);
        due(s + "forced arcs", x.count(2) - had, made);
        due(s + "LEAST with forced arcs", x.solve(), s.least);
        due(s + "OPTIMA with forced arcs", x.optima(), s.optima.size());
    }

    /** A shop as it was told. */
    private static final class Drawn {
        final int number;
        final int longest;
        final int size;
        final int[] job = new int[12];
        final int[] machine = new int[12];
        final int[] duration = new int[12];
        final boolean[][] arc = new boolean[12][12];
        final List<int[]> arcs = new ArrayList<>();
        int least;
        List<int[]> optima;

        Drawn(int number, Random random) {
            this.number = number;
            this.longest = number % 3 == 0 ? 3 : number % 3 == 1 ? 9 : 50;
            int jobs = 1 + random.nextInt(4);
            int most = Math.min(12, 4 * jobs);
            int wanted = number % 2 == 0 ? most : 1 + random.nextInt(most);
            boolean[][] taken = new boolean[4][4];
            int told = 0;
            while (told < wanted) {
                int j = random.nextInt(jobs);
                int m = random.nextInt(4);
                if (!taken[j][m]) {
                    taken[j][m] = true;
                    job[told] = j;
                    machine[told] = m;
                    duration[told++] = 1 + random.nextInt(longest);
                }
            }
            size = told;
            for (int tries = random.nextInt(7); tries > 0; tries--) {
                drawArc(random.nextInt(size), random.nextInt(size));
            }
        }

        void drawArc(int a, int b) {
            if (a != b && machine[a] == machine[b] && !arc[a][b] && !isPath(b, a)) {
                arc[a][b] = true;
                arcs.add(new int[] {a, b});
            }
        }

        JobShop shop() {
            JobShop x = new JobShop();
            for (int j = 0; j < 4; j++) {
                due(this + "job", x.job(), j);
            }
            for (int i = 0; i < size; i++) {
                due(this + "operation", x.operation(job[i], machine[i], duration[i]), i);
            }
            for (int[] pair : arcs) {
                due(this + "before " + pair[0] + " " + pair[1], x.before(pair[0], pair[1]), 1);
                due(this + "before " + pair[1] + " " + pair[0], x.before(pair[1], pair[0]), -4);
            }
            return x;
        }

        @Override
        public String toString() {
            return "shop " + number + ": ";
        }

        boolean isStep(int a, int b, boolean[][] chosen) {
            return chosen[a][b] || isNext(a, b);
        }

        boolean isNext(int a, int b) {
            if (a >= b || job[a] != job[b]) {
                return false;
            }
            for (int k = a + 1; k < b; k++) {
                if (job[k] == job[a]) {
                    return false;
                }
            }
            return true;
        }

        boolean isPath(int a, int b) {
            for (int k = 0; k < size; k++) {
                if (isStep(a, k, arc) && (k == b || isPath(k, b))) {
                    return true;
                }
            }
            return false;
        }

        int head(int i) {
            int most = 0;
            for (int k = 0; k < size; k++) {
                if (isStep(k, i, arc)) {
                    most = Math.max(most, head(k) + duration[k]);
                }
            }
            return most;
        }

        int tail(int i) {
            int most = 0;
            for (int k = 0; k < size; k++) {
                if (isStep(i, k, arc)) {
                    most = Math.max(most, duration[k] + tail(k));
                }
            }
            return most;
        }

        int[] operationsOf(int m) {
            int[] all = new int[4];
            int n = 0;
            for (int i = 0; i < size; i++) {
                if (machine[i] == m) {
                    all[n++] = i;
                }
            }
            return Arrays.copyOf(all, n);
        }

        /** The bracket of THE LOAD. */
        int greatestSum(int m) {
            int[] all = operationsOf(m);
            int most = 0;
            for (int set = 1; set < 1 << all.length; set++) {
                int head = Integer.MAX_VALUE;
                int tail = Integer.MAX_VALUE;
                int sum = 0;
                for (int k = 0; k < all.length; k++) {
                    if ((set >> k & 1) != 0) {
                        head = Math.min(head, head(all[k]));
                        tail = Math.min(tail, tail(all[k]));
                        sum += duration[all[k]];
                    }
                }
                most = Math.max(most, head + sum + tail);
            }
            return most;
        }

        /** The sentence of THE LOAD: whatever is done or left in each unit of time. */
        int leastTime(int m) {
            int[] all = operationsOf(m);
            int[] heads = new int[all.length];
            int[] tails = new int[all.length];
            int[] left = new int[all.length];
            int end = 0;
            for (int k = 0; k < all.length; k++) {
                heads[k] = head(all[k]);
                tails[k] = tail(all[k]);
                left[k] = duration[all[k]];
                end = Math.max(end, heads[k]);
            }
            for (int k = 0; k < all.length; k++) {
                end += left[k];
            }
            return leastFrom(0, end, left, heads, tails, new int[end + 1][256]);
        }

        int leastFrom(int time, int end, int[] left, int[] heads, int[] tails, int[][] known) {
            int key = 0;
            for (int units : left) {
                key = key * 4 + units;
            }
            if (key == 0) {
                return 0;
            }
            if (time == end) {
                return Integer.MAX_VALUE;
            }
            if (known[time][key] == 0) {
                int best = leastFrom(time + 1, end, left, heads, tails, known);
                for (int k = 0; k < left.length; k++) {
                    if (left[k] > 0 && heads[k] <= time) {
                        left[k]--;
                        int over = left[k] == 0 ? time + 1 + tails[k] : 0;
                        best = Math.min(best, Math.max(over, leastFrom(time + 1, end, left, heads, tails, known)));
                        left[k]++;
                    }
                }
                known[time][key] = best;
            }
            return known[time][key];
        }

        void weighAllSelections() {
            least = Integer.MAX_VALUE;
            optima = new ArrayList<>();
            choose(0, new boolean[12][12]);
        }

        void choose(int m, boolean[][] chosen) {
            if (m == 4) {
                weigh(chosen);
            } else {
                order(operationsOf(m), 0, m, chosen);
            }
        }

        /** Each order of the operations of one machine that all told arcs go along with. */
        void order(int[] all, int from, int m, boolean[][] chosen) {
            if (from == all.length) {
                choose(m + 1, chosen);
                return;
            }
            for (int k = from; k < all.length; k++) {
                swap(all, from, k);
                if (mayGoFirst(all, from)) {
                    for (int b = from + 1; b < all.length; b++) {
                        chosen[all[from]][all[b]] = true;
                    }
                    order(all, from + 1, m, chosen);
                    for (int b = from + 1; b < all.length; b++) {
                        chosen[all[from]][all[b]] = false;
                    }
                }
                swap(all, from, k);
            }
        }

        boolean mayGoFirst(int[] all, int from) {
            for (int b = from + 1; b < all.length; b++) {
                if (arc[all[b]][all[from]]) {
                    return false;
                }
            }
            return true;
        }

        static void swap(int[] all, int a, int b) {
            int was = all[a];
            all[a] = all[b];
            all[b] = was;
        }

        void weigh(boolean[][] chosen) {
            int[] starts = new int[size];
            boolean grown = true;
            for (int round = 0; grown; round++) {
                if (round > size) {
                    // Starts that grow for ever: a path from an operation to itself, so no selection.
                    return;
                }
                grown = grow(starts, chosen);
            }
            int makespan = 0;
            for (int i = 0; i < size; i++) {
                makespan = Math.max(makespan, starts[i] + duration[i]);
            }
            if (makespan < least) {
                least = makespan;
                optima.clear();
            }
            if (makespan == least) {
                optima.add(starts);
            }
        }

        boolean grow(int[] starts, boolean[][] chosen) {
            boolean grown = false;
            for (int a = 0; a < size; a++) {
                for (int b = 0; b < size; b++) {
                    if (starts[b] < starts[a] + duration[a] && isStep(a, b, chosen)) {
                        starts[b] = starts[a] + duration[a];
                        grown = true;
                    }
                }
            }
            return grown;
        }
    }
}
