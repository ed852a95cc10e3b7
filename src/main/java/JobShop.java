/**
 * A shop of machines and jobs: operations in the order of their jobs, one at a time on a machine, and the
 * search for all orders on the machines that have the least makespan.
 *
 * <p>All rows are made by the constructor and used again by every call: no call makes an object.
 */
public final class JobShop {
    public static final int NONE = -1, BAD = -2, FULL = -3, ROUND = -4, NO_WAY = -5;

    private static final int MOST_JOBS = 4;
    private static final int MOST_OPERATIONS = 12;
    private static final int MACHINES = 4;
    private static final int LONGEST_DURATION = 50;
    private static final int LATEST_DRAFT = 1000;
    private static final int TOO_LATE = -10;
    private static final int AT_ONCE = -30;

    private final Floor floor;
    private final Search search;
    private final int[] drafted;
    private boolean planned;

    public JobShop() {
        floor = new Floor();
        search = new Search(floor);
        drafted = new int[MOST_OPERATIONS];
        planned = false;
    }

    public int clear() {
        int had = floor.size;
        floor.empty();
        planned = false;
        return had;
    }

    public int job() {
        return floor.jobs < MOST_JOBS ? floor.addJob() : FULL;
    }

    public int operation(int job, int machine, int duration) {
        if (!floor.isJob(job) || !isMachine(machine) || duration < 1 || duration > LONGEST_DURATION) {
            return BAD;
        }
        if (floor.visits(job, machine)) {
            return BAD;
        }
        if (floor.size >= MOST_OPERATIONS) {
            return FULL;
        }
        planned = false;
        int added = floor.addOperation(job, machine, duration);
        for (int i = 0; i < floor.size; i++) {
            drafted[i] = 0;
        }
        return added;
    }

    public int before(int a, int b) {
        if (!floor.isPair(a, b)) {
            return BAD;
        }
        if (floor.leads(b, a)) {
            return ROUND;
        }
        if (floor.hasArc(a, b)) {
            return 0;
        }
        floor.putArc(a, b);
        planned = false;
        return 1;
    }

    public int free(int a, int b) {
        if (!floor.isPair(a, b)) {
            return BAD;
        }
        if (!floor.isTied(a, b)) {
            return 0;
        }
        floor.dropArcs(a, b);
        planned = false;
        return 1;
    }

    public int arc(int a, int b) {
        if (!floor.isPair(a, b)) {
            return BAD;
        }
        return floor.hasArc(a, b) ? 1 : 0;
    }

    public int told(int i, int what) {
        if (!floor.isOperation(i)) {
            return NONE;
        }
        switch (what) {
            case 0:
                return floor.jobOf[i];
            case 1:
                return floor.machineOf[i];
            case 2:
                return floor.duration[i];
            case 3:
                return floor.head[i];
            case 4:
                return floor.tail[i];
            case 5:
                return floor.through(i) == floor.longest() ? 1 : 0;
            case 6:
                return planned ? search.plan[i] : NONE;
            default:
                return BAD;
        }
    }

    public int length() {
        return floor.longest();
    }

    public int load(int machine) {
        return isMachine(machine) ? floor.burden(machine) : BAD;
    }

    public int select(int below) {
        int made = floor.force(below);
        if (made > 0) {
            planned = false;
        }
        return made;
    }

    public int solve() {
        // A plan that still stands is what a new search would find.
        if (!planned) {
            search.run();
            planned = true;
        }
        return search.least;
    }

    public int optima() {
        return planned ? search.found : NONE;
    }

    public int at(int machine, int time) {
        if (!isMachine(machine)) {
            return BAD;
        }
        if (!planned) {
            return NONE;
        }
        for (int i = 0; i < floor.size; i++) {
            int start = search.plan[i];
            if (floor.machineOf[i] == machine && start <= time && time < start + floor.duration[i]) {
                return i;
            }
        }
        return NONE;
    }

    public int draft(int i, int start) {
        if (!floor.isOperation(i) || start < 0 || start > LATEST_DRAFT) {
            return BAD;
        }
        int was = drafted[i];
        drafted[i] = start;
        return was;
    }

    public int check() {
        for (int i = 0; i < floor.size; i++) {
            if (endsTooLate(i)) {
                return TOO_LATE - i;
            }
        }
        for (int i = 0; i < floor.size; i++) {
            if (meetsGreater(i)) {
                return AT_ONCE - i;
            }
        }
        int makespan = 0;
        for (int i = 0; i < floor.size; i++) {
            makespan = Math.max(makespan, draftEnd(i));
        }
        return makespan;
    }

    public int adopt() {
        if (!planned) {
            return NONE;
        }
        for (int i = 0; i < floor.size; i++) {
            drafted[i] = search.plan[i];
        }
        return search.least;
    }

    public int count(int what) {
        switch (what) {
            case 0:
                return floor.jobs;
            case 1:
                return floor.size;
            case 2:
                return floor.tiedPairs();
            case 3:
                return floor.pairs() - floor.tiedPairs();
            case 4:
                return floor.bound();
            case 5:
                return planned ? search.least : NONE;
            default:
                return BAD;
        }
    }

    private static boolean isMachine(int machine) {
        return machine >= 0 && machine < MACHINES;
    }

    private static boolean isIn(int set, int i) {
        return (set >> i & 1) != 0;
    }

    private int draftEnd(int i) {
        return drafted[i] + floor.duration[i];
    }

    /** Whether operation i of the draft is over behind the beginning of one that must follow it. */
    private boolean endsTooLate(int i) {
        int followers = floor.followers(i);
        for (int k = 0; k < floor.size; k++) {
            if (isIn(followers, k) && draftEnd(i) > drafted[k]) {
                return true;
            }
        }
        return false;
    }

    private boolean meetsGreater(int i) {
        for (int k = i + 1; k < floor.size; k++) {
            if (floor.machineOf[k] == floor.machineOf[i] && drafted[i] < draftEnd(k) && drafted[k] < draftEnd(i)) {
                return true;
            }
        }
        return false;
    }

    /**
     * Jobs, operations and told arcs, with HEADS and TAILS kept right behind each change.
     *
     * <p>Sets of operations are ints, bit i for operation i. There is never a path from an operation to itself.
     */
    private static final class Floor {
        int jobs;
        int size;
        final int[] firstOf = new int[MOST_JOBS];
        final int[] lastOf = new int[MOST_JOBS];
        final int[] jobOf = new int[MOST_OPERATIONS];
        final int[] machineOf = new int[MOST_OPERATIONS];
        final int[] duration = new int[MOST_OPERATIONS];
        final int[] nextOf = new int[MOST_OPERATIONS];
        final int[] arcs = new int[MOST_OPERATIONS];
        final int[] head = new int[MOST_OPERATIONS];
        final int[] tail = new int[MOST_OPERATIONS];
        private final int[] kept = new int[MOST_OPERATIONS];

        void empty() {
            jobs = 0;
            size = 0;
        }

        boolean isJob(int j) {
            return j >= 0 && j < jobs;
        }

        boolean isOperation(int i) {
            return i >= 0 && i < size;
        }

        boolean isPair(int a, int b) {
            return isOperation(a) && isOperation(b) && a != b && machineOf[a] == machineOf[b];
        }

        int addJob() {
            int added = jobs;
            firstOf[added] = NONE;
            lastOf[added] = NONE;
            jobs++;
            return added;
        }

        boolean visits(int j, int machine) {
            for (int i = 0; i < size; i++) {
                if (jobOf[i] == j && machineOf[i] == machine) {
                    return true;
                }
            }
            return false;
        }

        int addOperation(int j, int machine, int time) {
            int added = size;
            jobOf[added] = j;
            machineOf[added] = machine;
            duration[added] = time;
            nextOf[added] = NONE;
            arcs[added] = 0;
            int last = lastOf[j];
            if (isOperation(last)) {
                nextOf[last] = added;
            } else {
                firstOf[j] = added;
            }
            lastOf[j] = added;
            size++;
            measure();
            return added;
        }

        boolean hasArc(int a, int b) {
            return isIn(arcs[a], b);
        }

        boolean isTied(int a, int b) {
            return hasArc(a, b) || hasArc(b, a);
        }

        void putArc(int a, int b) {
            arcs[a] |= 1 << b;
            measure();
        }

        void dropArcs(int a, int b) {
            arcs[a] &= ~(1 << b);
            arcs[b] &= ~(1 << a);
            measure();
        }

        int followers(int i) {
            return nextOf[i] == NONE ? arcs[i] : arcs[i] | 1 << nextOf[i];
        }

        /** Whether there is a path from one operation to another one. */
        boolean leads(int from, int to) {
            int reached = followers(from);
            int known = 0;
            for (int step = 0; step < size && known != reached; step++) {
                known = reached;
                for (int i = 0; i < size; i++) {
                    if (isIn(known, i)) {
                        reached |= followers(i);
                    }
                }
            }
            return isIn(reached, to);
        }

        /** HEADS and TAILS: no path has more than size operations, so that many rounds reach the end of each. */
        private void measure() {
            for (int i = 0; i < size; i++) {
                head[i] = 0;
                tail[i] = 0;
            }
            boolean grown = true;
            for (int round = 0; round < size && grown; round++) {
                grown = false;
                for (int i = 0; i < size; i++) {
                    if (stretch(i)) {
                        grown = true;
                    }
                }
            }
        }

        /** Brings the steps out of one operation into HEADS and TAILS: whether one has grown. */
        private boolean stretch(int i) {
            boolean grown = false;
            int followers = followers(i);
            for (int k = 0; k < size; k++) {
                if (isIn(followers, k)) {
                    if (head[k] < head[i] + duration[i]) {
                        head[k] = head[i] + duration[i];
                        grown = true;
                    }
                    if (tail[i] < duration[k] + tail[k]) {
                        tail[i] = duration[k] + tail[k];
                        grown = true;
                    }
                }
            }
            return grown;
        }

        int through(int i) {
            return head[i] + duration[i] + tail[i];
        }

        int longest() {
            int most = 0;
            for (int i = 0; i < size; i++) {
                most = Math.max(most, through(i));
            }
            return most;
        }

        /**
         * THE LOAD of a machine. Only sets of all operations from one HEAD and one TAIL on are looked at: to add
         * such an operation to a set never makes its sum smaller.
         */
        int burden(int machine) {
            int most = 0;
            for (int a = 0; a < size; a++) {
                for (int b = 0; b < size; b++) {
                    if (machineOf[a] == machine && machineOf[b] == machine) {
                        int work = workFrom(machine, head[a], tail[b]);
                        // No operation has both: then there is no set to sum up.
                        if (work > 0) {
                            most = Math.max(most, head[a] + work + tail[b]);
                        }
                    }
                }
            }
            return most;
        }

        private int workFrom(int machine, int leastHead, int leastTail) {
            int work = 0;
            for (int i = 0; i < size; i++) {
                if (machineOf[i] == machine && head[i] >= leastHead && tail[i] >= leastTail) {
                    work += duration[i];
                }
            }
            return work;
        }

        int bound() {
            int most = longest();
            for (int machine = 0; machine < MACHINES; machine++) {
                most = Math.max(most, burden(machine));
            }
            return most;
        }

        int pairs() {
            int sum = 0;
            for (int a = 0; a < size; a++) {
                for (int b = a + 1; b < size; b++) {
                    if (machineOf[a] == machineOf[b]) {
                        sum++;
                    }
                }
            }
            return sum;
        }

        int tiedPairs() {
            int sum = 0;
            for (int i = 0; i < size; i++) {
                sum += Integer.bitCount(arcs[i]);
            }
            return sum;
        }

        /**
         * Makes the arcs that a makespan below a number forces: how many, or NO_WAY with all arcs as they were.
         * Each round but the last one ties a pair more, so there are fewer rounds than pairs of operations.
         */
        int force(int below) {
            System.arraycopy(arcs, 0, kept, 0, size);
            int had = tiedPairs();
            int tied = NONE;
            boolean open = true;
            for (int round = 0; round < MOST_OPERATIONS * MOST_OPERATIONS && open && tied != tiedPairs(); round++) {
                tied = tiedPairs();
                for (int a = 0; a < size && open; a++) {
                    open = forceFrom(a, below);
                }
            }
            if (open && longest() < below) {
                return tied - had;
            }
            System.arraycopy(kept, 0, arcs, 0, size);
            measure();
            return NO_WAY;
        }

        /** Makes the arcs that are forced out of one operation: false, if some pair can go neither way. */
        private boolean forceFrom(int a, int below) {
            for (int b = 0; b < size; b++) {
                if (isPair(a, b) && !isTied(a, b) && mustPrecede(a, b, below)) {
                    if (mustPrecede(b, a, below) || leads(b, a)) {
                        return false;
                    }
                    putArc(a, b);
                }
            }
            return true;
        }

        private boolean mustPrecede(int a, int b, int below) {
            return head[b] + duration[b] + duration[a] + tail[a] >= below;
        }
    }

    /**
     * The search for OPTIMA.
     *
     * <p>A selection is known by its STARTS, and its operations sorted by STARTS (by numbers, where these are the
     * same) come behind all that lead to them, since no DURATION is 0. So operations are placed in just this order,
     * each as early as its job and its machine let it: each selection is met once, and none with a path to itself.
     */
    private static final class Search {
        int least;
        int found;
        final int[] plan = new int[MOST_OPERATIONS];
        private final Floor floor;
        private final int[] start = new int[MOST_OPERATIONS];
        private final int[] needs = new int[MOST_OPERATIONS];
        private final int[] turn = new int[MOST_JOBS];
        private final int[] jobFree = new int[MOST_JOBS];
        private final int[] machineFree = new int[MACHINES];
        private final int[] workLeft = new int[MACHINES];
        private final int[] waiting = new int[MACHINES];
        private int placed;

        Search(Floor floor) {
            this.floor = floor;
        }

        void run() {
            prepare();
            found = 0;
            extend(0, 0, NONE);
        }

        private void prepare() {
            for (int j = 0; j < floor.jobs; j++) {
                turn[j] = floor.firstOf[j];
                jobFree[j] = 0;
            }
            for (int machine = 0; machine < MACHINES; machine++) {
                machineFree[machine] = 0;
                workLeft[machine] = 0;
                waiting[machine] = 0;
            }
            placed = 0;
            // No path is longer than all operations one behind the other, so no selection is passed over.
            least = 0;
            for (int i = 0; i < floor.size; i++) {
                least += floor.duration[i];
                workLeft[floor.machineOf[i]] += floor.duration[i];
                waiting[floor.machineOf[i]] |= 1 << i;
                needs[i] = forerunners(i);
            }
        }

        private int forerunners(int i) {
            int set = 0;
            for (int k = 0; k < floor.size; k++) {
                if (floor.hasArc(k, i)) {
                    set |= 1 << k;
                }
            }
            return set;
        }

        /** Places each operation that may come next, behind the last one and its start. */
        private void extend(int depth, int lastStart, int last) {
            if (depth >= floor.size) {
                keep();
                return;
            }
            if (isHopeless(lastStart, last)) {
                return;
            }
            for (int j = 0; j < floor.jobs; j++) {
                int i = turn[j];
                if (floor.isOperation(i) && (needs[i] & ~placed) == 0 && !isPassed(i, lastStart, last)) {
                    place(i, depth);
                }
            }
        }

        private int earliest(int i) {
            int byJob = jobFree[floor.jobOf[i]];
            int byMachine = machineFree[floor.machineOf[i]];
            return byJob >= byMachine ? byJob : byMachine;
        }

        private boolean isPassed(int i, int lastStart, int last) {
            int begin = earliest(i);
            return begin < lastStart || begin == lastStart && i < last;
        }

        private void place(int i, int depth) {
            int j = floor.jobOf[i];
            int machine = floor.machineOf[i];
            int oldJobFree = jobFree[j];
            int oldMachineFree = machineFree[machine];
            int begin = earliest(i);
            start[i] = begin;
            turn[j] = floor.nextOf[i];
            jobFree[j] = begin + floor.duration[i];
            machineFree[machine] = begin + floor.duration[i];
            workLeft[machine] -= floor.duration[i];
            waiting[machine] ^= 1 << i;
            placed ^= 1 << i;
            extend(depth + 1, begin, i);
            placed ^= 1 << i;
            waiting[machine] ^= 1 << i;
            workLeft[machine] += floor.duration[i];
            machineFree[machine] = oldMachineFree;
            jobFree[j] = oldJobFree;
            turn[j] = i;
        }

        /** Whether nothing below here is one of OPTIMA, as far as can be seen at little cost. */
        private boolean isHopeless(int lastStart, int last) {
            for (int machine = 0; machine < MACHINES; machine++) {
                if (machineFree[machine] + workLeft[machine] > least) {
                    return true;
                }
            }
            for (int j = 0; j < floor.jobs; j++) {
                int i = turn[j];
                if (floor.isOperation(i) && (endsAbove(i) || isStranded(i, lastStart, last))) {
                    return true;
                }
            }
            return false;
        }

        private boolean endsAbove(int i) {
            return Math.max(earliest(i), floor.head[i]) + floor.duration[i] + floor.tail[i] > least;
        }

        /** Whether the turn of an operation is over, and no other one of its machine can still put it off. */
        private boolean isStranded(int i, int lastStart, int last) {
            int others = waiting[floor.machineOf[i]] & ~(1 << i) & ~floor.arcs[i];
            return others == 0 && isPassed(i, lastStart, last);
        }

        private void keep() {
            int makespan = 0;
            for (int i = 0; i < floor.size; i++) {
                makespan = Math.max(makespan, start[i] + floor.duration[i]);
            }
            if (makespan > least) {
                return;
            }
            if (makespan < least) {
                least = makespan;
                found = 0;
            }
            if (found == 0 || isEarlier()) {
                System.arraycopy(start, 0, plan, 0, floor.size);
            }
            found++;
        }

        private boolean isEarlier() {
            for (int i = 0; i < floor.size; i++) {
                if (start[i] != plan[i]) {
                    return start[i] < plan[i];
                }
            }
            return false;
        }
    }
}
