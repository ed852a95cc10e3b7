/** Each promise of the document on shops small enough to be worked out by hand. */
public final class PromisesTest {
    private static final int MAX = Integer.MAX_VALUE;
    private static final int MIN = Integer.MIN_VALUE;
    private static final int[] NO_INDEX = {-1, MIN, MAX};
    private static int wrong = 0;

    public static void main(String[] args) {
        newObject();
        clear();
        clearForgetsPlanArcsAndDraft();
        job();
        operation();
        operationWrong();
        operationFull();
        operationEndsPlanAndDraft();
        before();
        beforeRoundAboutOtherMachines();
        beforeEndsPlan();
        free();
        arc();
        told();
        toldAlongArcs();
        length();
        load();
        loadWithoutCommonSet();
        select();
        selectChain();
        selectNoWay();
        solve();
        solveKeepsArcs();
        solveLargest();
        optima();
        planIsEarliest();
        at();
        draft();
        check();
        checkFirstFaults();
        adopt();
        fullAndClearedShop();
        count();
        System.out.println(wrong == 0 ? "all promises hold" : wrong + " answers are wrong");
        if (wrong != 0) {
            System.exit(1);
        }
    }

    private static void due(String what, int got, int want) {
        if (got != want) {
            wrong++;
            System.out.println(what + " answered " + got + ", due is " + want);
        }
    }

    /** Jobs as rows of machine, duration, machine, duration ..; told one job behind the other. */
    private static JobShop shop(int[]... jobs) {
        JobShop x = new JobShop();
        for (int[] row : jobs) {
            int j = x.job();
            for (int k = 0; k < row.length; k += 2) {
                x.operation(j, row[k], row[k + 1]);
            }
        }
        return x;
    }

    private static int[] row(int... machinesAndDurations) {
        return machinesAndDurations;
    }

    /** Operations 0 and 1 of job 0 on machines 0 and 1, 2 and 3 of job 1 on machines 1 and 0. */
    private static JobShop crossing() {
        return shop(row(0, 3, 1, 2), row(1, 4, 0, 5));
    }

    private static void isNew(String name, JobShop x) {
        for (int what = 0; what <= 4; what++) {
            due(name + ": count " + what, x.count(what), 0);
        }
        due(name + ": least", x.count(5), -1);
        due(name + ": optima", x.optima(), -1);
        due(name + ": length", x.length(), 0);
        due(name + ": load", x.load(3), 0);
        due(name + ": told", x.told(0, 0), -1);
        due(name + ": at", x.at(0, 0), -1);
        due(name + ": adopt", x.adopt(), -1);
        due(name + ": check", x.check(), 0);
        due(name + ": operation", x.operation(0, 0, 1), -2);
        due(name + ": clear", x.clear(), 0);
    }

    private static void newObject() {
        isNew("new", new JobShop());
        JobShop one = new JobShop();
        JobShop other = new JobShop();
        one.job();
        due("new: another object's jobs", other.count(0), 0);
    }

    private static void clear() {
        JobShop x = crossing();
        due("clear: operations", x.clear(), 4);
        isNew("clear", x);
        due("clear: jobs from 0", x.job(), 0);
        due("clear: operations from 0", x.operation(0, 1, 7), 0);
        due("clear: new duration", x.length(), 7);
    }

    private static void clearForgetsPlanArcsAndDraft() {
        JobShop x = crossing();
        x.before(3, 0);
        x.draft(0, 9);
        x.solve();
        x.clear();
        due("clear: no plan", x.optima(), -1);
        due("clear: no plan to adopt", x.adopt(), -1);
        x.job();
        x.job();
        x.operation(0, 0, 3);
        x.operation(0, 1, 2);
        x.operation(1, 1, 4);
        x.operation(1, 0, 5);
        due("clear: no arc", x.arc(3, 0), 0);
        due("clear: no arcs", x.count(2), 0);
        due("clear: heads", x.told(0, 3), 0);
        due("clear: draft", x.draft(0, 0), 0);
    }

    private static void job() {
        JobShop x = new JobShop();
        for (int j = 0; j < 4; j++) {
            due("job", x.job(), j);
        }
        due("job: a fifth one", x.job(), -3);
        due("job: still four", x.count(0), 4);
        x.operation(0, 0, 1);
        x.clear();
        x.job();
        x.operation(0, 0, 2);
        x.solve();
        x.job();
        due("job: the plan stays", x.optima(), 1);
    }

    private static void operation() {
        JobShop x = new JobShop();
        x.job();
        x.job();
        due("operation: first", x.operation(1, 3, 50), 0);
        due("operation: second", x.operation(0, 3, 1), 1);
        due("operation: behind the first", x.operation(1, 0, 7), 2);
        due("operation: job", x.told(2, 0), 1);
        due("operation: machine", x.told(0, 1), 3);
        due("operation: duration", x.told(0, 2), 50);
        due("operation: order in its job", x.told(2, 3), 50);
    }

    private static void operationWrong() {
        JobShop x = new JobShop();
        x.job();
        for (int bad : new int[] {-1, 1, 4, MIN, MAX}) {
            due("operation: job " + bad, x.operation(bad, 0, 1), -2);
        }
        for (int bad : new int[] {-1, 4, MIN, MAX}) {
            due("operation: machine " + bad, x.operation(0, bad, 1), -2);
        }
        for (int bad : new int[] {0, -1, 51, MIN, MAX}) {
            due("operation: duration " + bad, x.operation(0, 0, bad), -2);
        }
        x.operation(0, 0, 2);
        due("operation: machine again", x.operation(0, 0, 3), -2);
        due("operation: only one made", x.count(1), 1);
    }

    private static void operationFull() {
        JobShop x = shop(row(0, 1, 1, 1, 2, 1), row(0, 1, 1, 1, 2, 1), row(0, 1, 1, 1, 2, 1), row(0, 1, 1, 1));
        due("operation: twelfth", x.operation(3, 2, 1), 11);
        x.solve();
        x.draft(0, 5);
        due("operation: thirteenth", x.operation(3, 3, 1), -3);
        due("operation: bad goes before full", x.operation(3, 2, 1), -2);
        due("operation: bad job goes before full", x.operation(4, 3, 1), -2);
        due("operation: still twelve", x.count(1), 12);
        due("operation: full keeps the plan", x.count(5) > 0 ? 1 : 0, 1);
        due("operation: full keeps the draft", x.draft(0, 0), 5);
    }

    private static void operationEndsPlanAndDraft() {
        JobShop x = crossing();
        x.solve();
        x.draft(2, 8);
        x.operation(0, 0, 1);
        due("operation: bad keeps the plan", x.optima() > 0 ? 1 : 0, 1);
        due("operation: bad keeps the draft", x.draft(2, 8), 8);
        x.operation(0, 2, 1);
        due("operation: ends the plan", x.optima(), -1);
        due("operation: draft is 0", x.draft(2, 0), 0);
    }

    private static void pairWrong(String name, java.util.function.IntBinaryOperator call) {
        for (int bad : new int[] {-1, 4, 12, MIN, MAX}) {
            due(name + ": first " + bad, call.applyAsInt(bad, 0), -2);
            due(name + ": second " + bad, call.applyAsInt(0, bad), -2);
        }
        due(name + ": the same one", call.applyAsInt(1, 1), -2);
        due(name + ": different machines", call.applyAsInt(0, 2), -2);
    }

    private static void before() {
        JobShop x = crossing();
        pairWrong("before", x::before);
        due("before: none made", x.count(2), 0);
        due("before: new", x.before(0, 3), 1);
        due("before: again", x.before(0, 3), 0);
        due("before: back", x.before(3, 0), -4);
        due("before: one arc", x.count(2), 1);
        due("before: the arc", x.arc(0, 3), 1);
        due("before: no arc back", x.arc(3, 0), 0);
    }

    private static void beforeRoundAboutOtherMachines() {
        JobShop x = crossing();
        due("before: 1 before 2", x.before(1, 2), 1);
        due("before: 0, 1, 2, 3 is a path", x.before(3, 0), -4);
        due("before: along the path", x.before(0, 3), 1);
        JobShop y = shop(row(0, 1, 1, 1), row(1, 1, 2, 1), row(2, 1, 0, 1));
        due("before: 1 before 2 of three jobs", y.before(1, 2), 1);
        due("before: 3 before 4 of three jobs", y.before(3, 4), 1);
        due("before: round by three jobs", y.before(5, 0), -4);
        due("before: no arc behind round", y.count(2), 2);
    }

    private static void beforeEndsPlan() {
        JobShop x = crossing();
        x.solve();
        x.before(9, 0);
        due("before: bad keeps the plan", x.optima() > 0 ? 1 : 0, 1);
        x.before(0, 3);
        due("before: new ends the plan", x.optima(), -1);
        x.solve();
        x.before(0, 3);
        x.before(3, 0);
        due("before: none new keeps the plan", x.optima() > 0 ? 1 : 0, 1);
    }

    private static void free() {
        JobShop x = crossing();
        pairWrong("free", x::free);
        x.solve();
        due("free: none", x.free(0, 3), 0);
        due("free: none keeps the plan", x.optima() > 0 ? 1 : 0, 1);
        x.before(0, 3);
        x.before(2, 1);
        x.solve();
        due("free: as it was told", x.free(0, 3), 1);
        due("free: ends the plan", x.optima(), -1);
        due("free: other arcs stay", x.arc(2, 1), 1);
        due("free: the other way round", x.free(1, 2), 1);
        due("free: gone", x.count(2), 0);
        due("free: heads again", x.told(1, 3), 3);
        due("free: tails again", x.told(2, 4), 5);
    }

    private static void arc() {
        JobShop x = crossing();
        pairWrong("arc", x::arc);
        due("arc: none", x.arc(0, 3), 0);
        x.before(3, 0);
        due("arc: back", x.arc(0, 3), 0);
        due("arc: there", x.arc(3, 0), 1);
        JobShop y = shop(row(0, 1), row(0, 1), row(0, 1));
        y.before(0, 1);
        y.before(1, 2);
        due("arc: a path is none", y.arc(0, 2), 0);
    }

    private static void told() {
        JobShop x = crossing();
        int[][] want = {{0, 0, 3, 0, 2, 0, -1}, {0, 1, 2, 3, 0, 0, -1}, {1, 1, 4, 0, 5, 1, -1}, {1, 0, 5, 4, 0, 1, -1}};
        for (int i = 0; i < 4; i++) {
            for (int what = 0; what < 7; what++) {
                due("told " + i + " " + what, x.told(i, what), want[i][what]);
            }
            for (int bad : new int[] {-1, 7, MIN, MAX}) {
                due("told " + i + " " + bad, x.told(i, bad), -2);
            }
        }
        for (int none : new int[] {-1, 4, 12, MIN, MAX}) {
            due("told: no operation " + none, x.told(none, 0), -1);
            due("told: no operation, and a wrong what", x.told(none, 7), -1);
        }
        x.solve();
        due("told: start", x.told(3, 6), 4);
    }

    private static void toldAlongArcs() {
        JobShop x = crossing();
        x.before(1, 2);
        int[] heads = {0, 3, 5, 9};
        int[] tails = {11, 9, 5, 0};
        for (int i = 0; i < 4; i++) {
            due("told: head along arcs of " + i, x.told(i, 3), heads[i]);
            due("told: tail along arcs of " + i, x.told(i, 4), tails[i]);
            due("told: on the longest path " + i, x.told(i, 5), 1);
        }
    }

    private static void length() {
        JobShop x = crossing();
        due("length: a job", x.length(), 9);
        x.before(1, 2);
        due("length: along an arc", x.length(), 14);
        x.free(1, 2);
        due("length: freed", x.length(), 9);
        JobShop y = shop(row(), row(2, 50));
        due("length: one operation", y.length(), 50);
    }

    private static void load() {
        JobShop x = crossing();
        due("load: machine 0", x.load(0), 9);
        due("load: machine 1", x.load(1), 9);
        due("load: unused", x.load(2), 0);
        for (int bad : new int[] {-1, 4, MIN, MAX}) {
            due("load: machine " + bad, x.load(bad), -2);
        }
        // Machine 0: heads 0, 5, tails 6, 0, durations 4, 4; machine 1: heads 4, 0, durations 6, 5.
        JobShop y = shop(row(0, 4, 1, 6), row(1, 5, 0, 4));
        due("load: one before the other", y.load(0), 10);
        due("load: broken off", y.load(1), 11);
        y.before(3, 0);
        due("load: by heads along arcs", y.load(0), 19);
    }

    private static void loadWithoutCommonSet() {
        // Operation 1 has head 40 and tail 0, operation 2 head 0 and tail 40: none has both.
        JobShop x = shop(row(1, 40, 0, 1), row(0, 1, 2, 40));
        due("load: no set with both", x.load(0), 41);
        JobShop y = shop(row(0, 1), row(0, 2), row(0, 3), row(0, 4));
        due("load: all four", y.load(0), 10);
    }

    private static void select() {
        JobShop x = crossing();
        // 3 before 0: head 4 + 5 + 3 + tail 2 = 14; 1 before 2: head 3 + 2 + 4 + tail 5 = 14.
        x.solve();
        due("select: nothing forced", x.select(15), 0);
        due("select: the plan stays", x.count(5), 9);
        due("select: both forced", x.select(14), 2);
        due("select: 0 before 3", x.arc(0, 3), 1);
        due("select: 2 before 1", x.arc(2, 1), 1);
        due("select: ends the plan", x.optima(), -1);
        due("select: again", x.select(14), 0);
        due("select: no bound", x.select(MAX), 0);
    }

    private static void selectChain() {
        // Only 2 behind 4 is put off so far (head of 3: 20) that 3 must let 1 go before it.
        JobShop x = shop(row(3, 9, 1, 10), row(0, 10, 1, 10), row(0, 10, 2, 20));
        due("select: nothing at 41", x.select(41), 0);
        due("select: one arc forces the next one", x.select(40), 2);
        due("select: first of the chain", x.arc(4, 2), 1);
        due("select: second of the chain", x.arc(1, 3), 1);
        x.free(4, 2);
        x.solve();
        due("select: the arc that is not there", x.select(40), 1);
        due("select: one arc ends the plan", x.optima(), -1);
        x.free(4, 2);
        x.free(1, 3);
        x.before(2, 4);
        due("select: a told arc stays and counts for none", x.select(41), 0);
        due("select: a told arc is in the way", x.select(40), -5);
    }

    private static void selectNoWay() {
        JobShop x = crossing();
        x.solve();
        due("select: length", x.select(9), -5);
        due("select: no arc is made", x.count(2), 0);
        due("select: the plan is kept", x.optima() > 0 ? 1 : 0, 1);
        due("select: heads are kept", x.told(1, 3), 3);
        due("select: least number", x.select(MIN), -5);
        JobShop y = shop(row(0, 5), row(0, 5));
        due("select: both ways", y.select(10), -5);
        due("select: both ways, no arc", y.count(2), 0);
        due("select: neither way", y.select(11), 0);
        JobShop z = shop(row(0, 3));
        due("select: length is not below", z.select(3), -5);
        due("select: length is below", z.select(4), 0);
        due("select: empty and 0", new JobShop().select(0), -5);
        due("select: empty and 1", new JobShop().select(1), 0);
        // With 0 before 2 and 2 before 1 told, 1 before 0 is the only way below the number, and a path to itself.
        JobShop w = shop(row(0, 2), row(1, 9, 0, 2, 2, 9), row(0, 2));
        w.before(0, 4);
        w.before(4, 2);
        due("select: told arcs leave no way", w.select(20), -5);
        due("select: told arcs stay", w.count(2), 2);
    }

    private static void solve() {
        JobShop none = new JobShop();
        due("solve: empty", none.solve(), 0);
        due("solve: empty has one selection", none.optima(), 1);
        due("solve: empty can be adopted", none.adopt(), 0);
        due("solve: job without operations", shop(row()).solve(), 0);
        JobShop x = crossing();
        due("solve", x.solve(), 9);
        due("solve: again", x.solve(), 9);
        due("solve: makes no arc", x.count(2), 0);
        JobShop y = shop(row(0, 3), row(0, 4), row(0, 5));
        due("solve: one machine", y.solve(), 12);
    }

    private static void solveKeepsArcs() {
        JobShop x = crossing();
        x.before(1, 2);
        due("solve: with an arc", x.solve(), 14);
        due("solve: one selection left", x.optima(), 1);
        due("solve: start behind the arc", x.told(2, 6), 5);
        x.free(1, 2);
        due("solve: without it", x.solve(), 9);
    }

    private static void solveLargest() {
        int[] job = row(0, 50, 1, 50, 2, 50);
        JobShop x = shop(job, job, job, job);
        due("solve: flow of four equal jobs", x.solve(), 300);
        due("solve: flow, optima", x.optima(), 24);
        due("solve: last start", x.told(11, 6), 250);
        JobShop y = shop(job, job, job, job);
        for (int a = 0; a < 9; a += 3) {
            y.before(a + 3, a);
        }
        due("solve: backwards", y.solve(), 300);
        due("solve: backwards, optima", y.optima(), 1);
        due("solve: backwards, first start", y.told(0, 6), 150);
    }

    private static void optima() {
        JobShop x = shop(row(0, 1), row(0, 2), row(0, 3), row(0, 4));
        due("optima: no plan", x.optima(), -1);
        x.solve();
        due("optima: every order", x.optima(), 24);
        x.before(2, 0);
        due("optima: plan is gone", x.optima(), -1);
        x.solve();
        due("optima: half of them", x.optima(), 12);
        // Machine 1 has to wait for job 0; on machine 0 only 0 first ends at 9.
        JobShop y = shop(row(0, 2, 1, 5), row(0, 2, 1, 2));
        due("optima: least of two by two", y.solve(), 9);
        due("optima: two by two", y.optima(), 2);
        JobShop z = shop(row(0, 4), row(1, 4));
        z.solve();
        due("optima: nothing to choose", z.optima(), 1);
    }

    private static void planIsEarliest() {
        JobShop x = shop(row(0, 3), row(0, 1), row(0, 2));
        x.solve();
        int[] starts = {0, 3, 4};
        for (int i = 0; i < 3; i++) {
            due("plan: the least starts, operation " + i, x.told(i, 6), starts[i]);
        }
        // Either order on machine 0 ends at 4: operation 0 goes first though it is of the later job.
        JobShop y = new JobShop();
        y.job();
        y.job();
        y.operation(1, 0, 2);
        y.operation(0, 0, 2);
        y.solve();
        due("plan: by numbers, not by jobs", y.told(0, 6), 0);
        // The long job must go first, so operation 0 starts late although an earlier start exists.
        JobShop z = shop(row(0, 5), row(0, 1, 1, 9));
        due("plan: least goes before early", z.solve(), 10);
        due("plan: start of operation 0", z.told(0, 6), 1);
    }

    private static void at() {
        JobShop x = crossing();
        due("at: no plan", x.at(0, 0), -1);
        for (int bad : new int[] {-1, 4, MIN, MAX}) {
            due("at: machine without a plan " + bad, x.at(bad, 0), -2);
        }
        x.solve();
        int[] machine0 = {0, 0, 0, -1, 3, 3, 3, 3, 3, -1};
        int[] machine1 = {2, 2, 2, 2, 1, 1, -1, -1, -1, -1};
        for (int time = 0; time < 10; time++) {
            due("at: machine 0, time " + time, x.at(0, time), machine0[time]);
            due("at: machine 1, time " + time, x.at(1, time), machine1[time]);
            due("at: machine 2, time " + time, x.at(2, time), -1);
        }
        for (int time : NO_INDEX) {
            due("at: time " + time, x.at(0, time), -1);
        }
        due("at: machine " + MAX, x.at(MAX, 0), -2);
        x.before(0, 3);
        due("at: plan is gone", x.at(0, 0), -1);
    }

    private static void draft() {
        JobShop x = crossing();
        due("draft: at first", x.draft(3, 1000), 0);
        due("draft: what it was", x.draft(3, 0), 1000);
        for (int bad : new int[] {-1, 4, 12, MIN, MAX}) {
            due("draft: operation " + bad, x.draft(bad, 0), -2);
        }
        x.draft(2, 6);
        for (int bad : new int[] {-1, 1001, MIN, MAX}) {
            due("draft: start " + bad, x.draft(2, bad), -2);
        }
        due("draft: bad changes nothing", x.draft(2, 6), 6);
        x.before(0, 3);
        x.free(0, 3);
        x.job();
        x.solve();
        due("draft: kept over other calls", x.draft(2, 6), 6);
        x.draft(0, 7);
        due("draft: no start of the plan", x.told(0, 6), 0);
    }

    private static void setDraft(JobShop x, int... starts) {
        for (int i = 0; i < starts.length; i++) {
            x.draft(i, starts[i]);
        }
    }

    private static void check() {
        JobShop x = crossing();
        setDraft(x, 0, 4, 0, 4);
        due("check: right", x.check(), 9);
        setDraft(x, 0, 1000, 0, 4);
        due("check: late", x.check(), 1002);
        setDraft(x, 0, 2, 0, 4);
        due("check: 0 is over behind 1's beginning", x.check(), -10);
        setDraft(x, 0, 4, 1, 4);
        due("check: 2 is over behind 3's beginning", x.check(), -12);
        setDraft(x, 0, 3, 0, 4);
        due("check: 1 and 2 at a time", x.check(), -31);
        x.draft(1, 4);
        x.before(3, 0);
        due("check: against an arc", x.check(), -13);
        x.free(3, 0);
        x.before(0, 3);
        due("check: along an arc", x.check(), 9);
        due("check: one operation", shop(row(3, 9)).check(), 9);
        due("check: no operation", shop(row()).check(), 0);
    }

    private static void checkFirstFaults() {
        JobShop x = shop(row(0, 2), row(0, 2), row(0, 2, 1, 2), row(1, 2));
        setDraft(x, 4, 0, 0, 2, 3);
        due("check: 1 with 2, 3 with 4", x.check(), -31);
        x.draft(3, 1);
        due("check: order goes before at a time", x.check(), -12);
        setDraft(x, 0, 2, 4, 6, 4);
        due("check: end to end", x.check(), 8);
        setDraft(x, 1, 2, 4, 6, 4);
        due("check: one unit in common", x.check(), -30);
        // A greater number that begins first is met all the same.
        setDraft(x, 5, 0, 4, 6, 4);
        due("check: the greater one first", x.check(), -30);
        JobShop y = shop(row(0, 5, 1, 5), row(2, 5));
        setDraft(y, 0, 5, 0);
        due("check: other machines at a time", y.check(), 10);
    }

    private static void adopt() {
        JobShop x = crossing();
        x.draft(0, 77);
        due("adopt: no plan", x.adopt(), -1);
        due("adopt: no plan, draft stays", x.draft(0, 77), 77);
        x.solve();
        due("adopt", x.adopt(), 9);
        due("adopt: checked", x.check(), 9);
        due("adopt: the plan stays", x.count(5), 9);
        int[] starts = {0, 4, 0, 4};
        for (int i = 0; i < 4; i++) {
            due("adopt: draft of " + i, x.draft(i, 500), starts[i]);
            due("adopt: plan of " + i, x.told(i, 6), starts[i]);
        }
        x.before(3, 0);
        due("adopt: plan is gone", x.adopt(), -1);
    }

    /** Every call where no room is left, and where a larger shop stood before. */
    private static void fullAndClearedShop() {
        int[] job = row(0, 2, 1, 2, 2, 2);
        JobShop x = shop(job, job, job, job);
        for (int i = 0; i < 9; i++) {
            due("full: before", x.before(i, i + 3), 1);
        }
        due("full: round", x.before(11, 2), -4);
        due("full: length", x.length(), 12);
        due("full: load", x.load(2), 12);
        due("full: bound", x.count(4), 12);
        due("full: pairs without an arc", x.count(3), 9);
        due("full: select", x.select(13), 9);
        due("full: solve", x.solve(), 12);
        due("full: optima", x.optima(), 1);
        due("full: at", x.at(2, 11), 11);
        due("full: at the end", x.at(2, 12), -1);
        due("full: adopt", x.adopt(), 12);
        due("full: check", x.check(), 12);
        x.draft(10, 9);
        due("full: check of the last ones", x.check(), -20);
        due("full: clear", x.clear(), 12);
        x.job();
        x.job();
        x.operation(0, 0, 3);
        x.operation(1, 0, 3);
        due("cleared: length", x.length(), 3);
        due("cleared: load", x.load(0), 6);
        due("cleared: load of an old machine", x.load(2), 0);
        due("cleared: bound", x.count(4), 6);
        due("cleared: arcs", x.count(2), 0);
        due("cleared: pairs", x.count(3), 1);
        due("cleared: draft", x.check(), -30);
        x.draft(1, 3);
        due("cleared: makespan", x.check(), 6);
        due("cleared: solve", x.solve(), 6);
        due("cleared: optima", x.optima(), 2);
        due("cleared: at", x.at(0, 5), 1);
        due("cleared: old operation", x.at(2, 4), -1);
    }

    private static void count() {
        JobShop x = shop(row(0, 3, 1, 2), row(1, 4, 0, 5), row(0, 6));
        int[] first = {3, 5, 0, 4, 14, -1};
        for (int what = 0; what < 6; what++) {
            due("count " + what, x.count(what), first[what]);
        }
        for (int bad : new int[] {-1, 6, MIN, MAX}) {
            due("count " + bad, x.count(bad), -2);
        }
        x.before(0, 3);
        x.before(4, 0);
        due("count: arcs", x.count(2), 2);
        due("count: pairs without an arc", x.count(3), 2);
        due("count: least", x.solve(), x.count(5));
        // Along 1 before 2 the length is 14, and no machine has more.
        JobShop y = crossing();
        y.before(1, 2);
        due("count: length as the bound", y.count(4), 14);
        due("count: loads as the bound", shop(row(3, 7), row(3, 8)).count(4), 15);
    }
}
