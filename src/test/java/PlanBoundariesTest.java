/**
 * Boundary cases of promises 12 to 14: solve, optima, at; of when THE PLAN is none any more; and of the 512 calls of
 * an object.
 */
public final class PlanBoundariesTest extends Boundaries {
    public static void main(String[] args) {
        solveWhereNothingIsTold();
        solveWithoutAChoice();
        solveOfTheGreatestShop();
        solveLeavesArcsAndDraft();
        optimaWithoutThePlan();
        optimaOfManySelections();
        planIsLeastAtTheFirstThatDiffers();
        planOfJobsInAnyOrder();
        atTheEndsOfAnOperation();
        atTimesOutsideThePlan();
        atNoSuchMachine();
        atWithoutThePlan();
        planEndsByOperation();
        planEndsByBefore();
        planEndsByFree();
        planEndsBySelect();
        planEndsByClear();
        planEndsForGood();
        planStandsOverAllElse();
        answersTo512Calls();
        answersTo512CallsOfTheGreatestShop();
        finish();
    }

    // Promise 12: solve.

    private static void solveWhereNothingIsTold() {
        JobShop x = new JobShop();
        due("solve: nothing told", x.solve(), 0);
        due("solve: nothing told, LEAST", x.count(5), 0);
        due("solve: nothing told, OPTIMA", x.optima(), 1);
        due("solve: nothing told, adopt", x.adopt(), 0);
        due("solve: nothing told, at", x.at(0, 0), NONE);
        JobShop y = shop(row(), row(), row(), row());
        due("solve: jobs alone", y.solve(), 0);
        due("solve: jobs alone, OPTIMA", y.optima(), 1);
        JobShop z = busy();
        z.clear();
        due("solve: cleared", z.solve(), 0);
        due("solve: cleared, OPTIMA", z.optima(), 1);
    }

    private static void solveWithoutAChoice() {
        JobShop x = shop(row(), row(3, 50));
        due("solve: one operation", x.solve(), 50);
        due("solve: one operation, START", x.told(0, 6), 0);
        due("solve: one operation, OPTIMA", x.optima(), 1);
        JobShop y = shop(row(3, 50, 2, 1, 1, 50, 0, 1));
        due("solve: one job", y.solve(), 102);
        due("solve: one job, OPTIMA", y.optima(), 1);
        due("solve: one job, last START", y.told(3, 6), 101);
        JobShop z = queue(1, 2, 3, 4);
        z.before(3, 2);
        z.before(2, 1);
        z.before(1, 0);
        due("solve: all told", z.solve(), 10);
        due("solve: all told, OPTIMA", z.optima(), 1);
        due("solve: all told, START", z.told(0, 6), 9);
    }

    private static void solveOfTheGreatestShop() {
        JobShop x = longest();
        due("solve: the greatest LEAST", x.solve(), 600);
        due("solve: the last START", x.told(11, 6), 550);
        due("solve: the last unit", x.at(0, 599), 11);
        due("solve: adopted", x.adopt(), 600);
        due("solve: checked", x.check(), 600);
        JobShop y = twelve(1);
        due("solve: twelve of 1", y.solve(), 6);
        due("solve: twelve of 1, OPTIMA", y.optima(), 24);
    }

    private static void solveLeavesArcsAndDraft() {
        JobShop x = crossing();
        x.before(0, 3);
        x.draft(1, 7);
        x.solve();
        due("solve: the told arc", x.arc(0, 3), 1);
        due("solve: no other arc", x.count(2), 1);
        due("solve: HEAD by told arcs", x.told(1, 3), 3);
        due("solve: the draft", x.draft(1, 7), 7);
        leaves("solve: again", Boundaries::busy, JobShop::solve, 9);
    }

    // Promise 13: optima.

    private static void optimaWithoutThePlan() {
        JobShop x = new JobShop();
        due("optima: nothing told", x.optima(), NONE);
        x.solve();
        due("optima: nothing told, solved", x.optima(), 1);
        JobShop y = shop(row(0, 5), row(0, 5));
        due("optima: not solved", y.optima(), NONE);
        y.solve();
        leaves("optima", Boundaries::busy, JobShop::optima, 1);
        leaves("optima: none", Boundaries::open, JobShop::optima, NONE);
        due("optima: solved", y.optima(), 2);
        due("optima: asked again", y.optima(), 2);
        y.before(1, 0);
        due("optima: no plan any more", y.optima(), NONE);
        y.solve();
        due("optima: solved again", y.optima(), 1);
    }

    private static void optimaOfManySelections() {
        JobShop x = queue(1, 1, 1, 1);
        x.solve();
        due("optima: all orders of four", x.optima(), 24);
        x.before(0, 1);
        x.solve();
        due("optima: half of them", x.optima(), 12);
        x.before(3, 2);
        x.solve();
        due("optima: a quarter of them", x.optima(), 6);
        // Machine 0 alone tells LEAST: all 64 selections of the others have it, and the other 152 are a path round.
        JobShop y = shop(row(0, 50), row(1, 1, 2, 1, 3, 1), row(2, 1, 3, 1, 1, 1), row(3, 1, 1, 1, 2, 1));
        due("optima: LEAST beside machine 0", y.solve(), 50);
        due("optima: beside machine 0", y.optima(), 64);
        // Operation 0 holds its job off till 50: all 6 * 6 * 6 orders of the other jobs are over by then.
        int[] flow = row(0, 1, 1, 1, 2, 1);
        JobShop z = shop(row(3, 50, 0, 1, 1, 1), flow, flow, flow);
        due("optima: LEAST behind a long one", z.solve(), 52);
        due("optima: behind a long one", z.optima(), 216);
    }

    private static void planIsLeastAtTheFirstThatDiffers() {
        JobShop x = queue(4, 3, 2, 1);
        x.solve();
        int[] starts = {0, 4, 7, 9};
        for (int i = 0; i < 4; i++) {
            due("plan: START by numbers, " + i, x.told(i, 6), starts[i]);
        }
        x.before(3, 0);
        x.solve();
        int[] behind = {1, 5, 8, 0};
        for (int i = 0; i < 4; i++) {
            due("plan: START behind an arc, " + i, x.told(i, 6), behind[i]);
        }
        // 0 starts at 0 either way; 2 before 1 and 1 before 2 both end at 50, and 1 is the first that differs.
        JobShop y = shop(row(0, 50), row(1, 3), row(1, 2));
        y.solve();
        due("plan: the first that differs", y.told(1, 6), 0);
        due("plan: behind the first that differs", y.told(2, 6), 3);
        // The same with the jobs of 1 and 2 told the other way round.
        JobShop z = shop(row(0, 50), row(), row());
        z.operation(2, 1, 3);
        z.operation(1, 1, 2);
        z.solve();
        due("plan: the first that differs is of a later job", z.told(1, 6), 0);
        due("plan: behind it is one of an earlier job", z.told(2, 6), 3);
    }

    private static void planOfJobsInAnyOrder() {
        JobShop x = shop(row(), row(), row(), row());
        x.operation(3, 0, 5);
        x.operation(1, 0, 4);
        x.operation(3, 1, 3);
        x.operation(0, 1, 2);
        due("plan: LEAST of jobs in any order", x.solve(), 9);
        due("plan: OPTIMA of jobs in any order", x.optima(), 1);
        int[] starts = {0, 5, 5, 0};
        for (int i = 0; i < 4; i++) {
            due("plan: START of jobs in any order, " + i, x.told(i, 6), starts[i]);
        }
    }

    // Promise 14: at.

    private static void atTheEndsOfAnOperation() {
        JobShop x = crossing();
        x.solve();
        due("at: its first unit", x.at(0, 0), 0);
        due("at: its last unit", x.at(0, 2), 0);
        due("at: its end", x.at(0, 3), NONE);
        due("at: right before the next one", x.at(0, 3), NONE);
        due("at: the next one's first unit", x.at(0, 4), 3);
        due("at: the next one's last unit", x.at(0, 8), 3);
        due("at: behind all", x.at(0, 9), NONE);
        due("at: last unit before another one", x.at(1, 3), 2);
        due("at: first unit behind another one", x.at(1, 4), 1);
        JobShop y = shop(row(3, 1), row(3, 1));
        y.solve();
        due("at: one unit alone", y.at(3, 0), 0);
        due("at: the next unit alone", y.at(3, 1), 1);
        due("at: behind both", y.at(3, 2), NONE);
    }

    private static void atTimesOutsideThePlan() {
        JobShop x = longest();
        x.solve();
        due("at: time -1", x.at(0, -1), NONE);
        due("at: time 0", x.at(0, 0), 0);
        due("at: the last time", x.at(0, 599), 11);
        due("at: behind the last time", x.at(0, 600), NONE);
        for (int machine = 0; machine < 4; machine++) {
            for (int time : new int[] {MIN, MIN + 1, -50, -1, 600, 1000, MAX - 50, MAX - 1, MAX}) {
                due("at: time " + time, x.at(machine, time), NONE);
            }
        }
    }

    private static void atNoSuchMachine() {
        JobShop solved = busy();
        JobShop open = crossing();
        for (int bad : new int[] {-1, 4, MIN, MAX}) {
            due("at: machine " + bad, solved.at(bad, 0), BAD);
            due("at: machine " + bad + " without the plan", open.at(bad, 0), BAD);
            due("at: machine " + bad + " at no time", solved.at(bad, MIN), BAD);
        }
        due("at: the first machine", solved.at(0, 0), 0);
        due("at: the last machine", solved.at(3, 0), NONE);
        due("at: the last machine without the plan", open.at(3, 0), NONE);
        leaves("at: bad", Boundaries::busy, x -> x.at(4, 0), BAD);
        leaves("at: good", Boundaries::busy, x -> x.at(1, 0), 2);
        leaves("at: none", Boundaries::busy, x -> x.at(3, MIN), NONE);
        leaves("at: no plan", Boundaries::open, x -> x.at(0, 0), NONE);
    }

    private static void atWithoutThePlan() {
        JobShop x = crossing();
        for (int time : new int[] {MIN, -1, 0, 1, 1000, MAX}) {
            due("at: without the plan, time " + time, x.at(0, time), NONE);
        }
        x.solve();
        due("at: with the plan", x.at(1, 0), 2);
        x.free(0, 3);
        due("at: with the plan still", x.at(1, 0), 2);
        x.before(1, 2);
        due("at: without the plan again", x.at(1, 0), NONE);
        x.solve();
        due("at: with another plan", x.at(1, 3), 1);
    }

    // When THE PLAN is none any more.

    private static void planEndsByOperation() {
        JobShop x = busy();
        due("plan: operation", x.operation(1, 3, 1), 4);
        hasNoPlan("plan: ended by operation()", x);
        due("plan: solved again", x.solve(), 10);
        hasPlan("plan: with the new one", x, 10, 1);
    }

    private static void planEndsByBefore() {
        JobShop x = busy();
        due("plan: before", x.before(1, 2), 1);
        hasNoPlan("plan: ended by before()", x);
        due("plan: solved with the arc", x.solve(), 14);
    }

    private static void planEndsByFree() {
        JobShop x = busy();
        due("plan: free", x.free(0, 3), 1);
        hasNoPlan("plan: ended by free()", x);
        JobShop y = busy();
        due("plan: free, the other way", y.free(3, 0), 1);
        hasNoPlan("plan: ended by free(), the other way", y);
        due("plan: solved without the arc", y.solve(), 9);
    }

    private static void planEndsBySelect() {
        JobShop x = busy();
        due("plan: select", x.select(14), 1);
        hasNoPlan("plan: ended by select()", x);
        JobShop y = crossing();
        y.solve();
        due("plan: select of two", y.select(14), 2);
        hasNoPlan("plan: ended by select() of two", y);
    }

    private static void planEndsByClear() {
        JobShop x = busy();
        x.clear();
        hasNoPlan("plan: ended by clear()", x);
        x.job();
        x.operation(0, 0, 1);
        hasNoPlan("plan: ended by clear(), with an operation", x);
    }

    private static void planEndsForGood() {
        JobShop x = busy();
        x.before(2, 1);
        x.free(2, 1);
        hasNoPlan("plan: an arc has come and gone", x);
        x.before(0, 3);
        x.select(MIN);
        x.operation(9, 9, 9);
        hasNoPlan("plan: refused calls bring none back", x);
        due("plan: solved", x.solve(), 9);
        hasPlan("plan: by solve() alone", x, 9, 1);
    }

    private static void planStandsOverAllElse() {
        JobShop x = busy();
        due("plan: job", x.job(), 2);
        hasPlan("plan: over job()", x, 9, 1);
        due("plan: select of none", x.select(15), 0);
        hasPlan("plan: over select() of none", x, 9, 1);
        due("plan: select, no way", x.select(9), NO_WAY);
        hasPlan("plan: over select(), no way", x, 9, 1);
        x.length();
        x.load(0);
        x.check();
        x.adopt();
        x.solve();
        x.draft(0, 1);
        hasPlan("plan: over all that only ask", x, 9, 1);
        due("plan: its last START", x.told(3, 6), 4);
    }

    // The 512 calls of an object.

    private static void answersTo512Calls() {
        JobShop x = new JobShop();
        for (int round = 0; round < 85; round++) {
            due("512 calls: job", x.job(), 0);
            due("512 calls: operation", x.operation(0, 0, 50), 0);
            due("512 calls: draft", x.draft(0, 1000), 0);
            due("512 calls: solve", x.solve(), 50);
            due("512 calls: at", x.at(0, 49), 0);
            due("512 calls: clear", x.clear(), 1);
        }
        due("512 calls: the 511th", x.job(), 0);
        due("512 calls: the 512th", x.count(0), 1);
    }

    private static void answersTo512CallsOfTheGreatestShop() {
        JobShop x = twelve(50);
        for (int calls = 16; calls < 512; calls += 4) {
            due("512 calls: before", x.before(3, 0), 1);
            due("512 calls: solve with the arc", x.solve(), 300);
            due("512 calls: free", x.free(0, 3), 1);
            due("512 calls: solve without it", x.solve(), 300);
        }
    }
}
