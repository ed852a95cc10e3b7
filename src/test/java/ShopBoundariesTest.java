/** Boundary cases of promises 1 to 4: a new object, clear, job, operation. */
public final class ShopBoundariesTest extends Boundaries {
    public static void main(String[] args) {
        newObjectHasNoJobs();
        newObjectsStandApart();
        clearAnswersHowManyOperationsThereWere();
        clearLeavesAllAsAtFirst();
        clearMakesRoomAgain();
        clearForgetsThePlanOfNothing();
        jobsHaveNumbers0To3();
        fifthJobIsFull();
        fullJobLeavesAllAsItWas();
        operationOfNoSuchJob();
        operationOnNoSuchMachine();
        operationOfNoSuchDuration();
        operationOnItsMachineAgain();
        thirteenthOperationIsFull();
        thirteenthIsBadBeforeItIsFull();
        fullWhereEachJobHasMachinesLeft();
        refusedOperationLeavesAllAsItWas();
        newOperationGoesBehindItsJob();
        finish();
    }

    // Promise 1: A new object.

    private static void newObjectHasNoJobs() {
        JobShop x = new JobShop();
        due("new: jobs", x.count(0), 0);
        due("new: operation of job 0", x.operation(0, 0, 1), BAD);
        due("new: operations", x.count(1), 0);
        hasNoPlan("new", x);
        due("new: clear", x.clear(), 0);
        due("new: first job", x.job(), 0);
        due("new: operation of the first job", x.operation(0, 0, 1), 0);
    }

    private static void newObjectsStandApart() {
        busyTwelve();
        JobShop y = new JobShop();
        due("another object: operations", y.count(1), 0);
        hasNoPlan("another object", y);
        leaves("an object beside another one", Boundaries::busy, x -> busyTwelve().clear(), 12);
    }

    // Promise 2: clear.

    private static void clearAnswersHowManyOperationsThereWere() {
        due("clear: jobs alone", shop(row(), row(), row()).clear(), 0);
        due("clear: one operation", shop(row(), row(3, 50)).clear(), 1);
        due("clear: eleven", shop(row(0, 1, 1, 1, 2, 1, 3, 1), row(0, 1, 1, 1, 2, 1, 3, 1), row(0, 1, 1, 1, 2, 1))
            .clear(), 11);
        JobShop x = twelve(1);
        due("clear: twelve", x.clear(), 12);
        due("clear: a second time", x.clear(), 0);
    }

    private static void clearLeavesAllAsAtFirst() {
        same("clear: empty", behind(Boundaries::busyTwelve, JobShop::clear), JobShop::new);
        same("clear: a new shop", ShopBoundariesTest::crossingBehindClear, Boundaries::crossing);
    }

    private static JobShop crossingBehindClear() {
        JobShop x = busyTwelve();
        x.clear();
        due("clear: job 0 again", x.job(), 0);
        due("clear: job 1 again", x.job(), 1);
        due("clear: job 2 is no more", x.operation(2, 0, 1), BAD);
        due("clear: operation 0 again", x.operation(0, 0, 3), 0);
        due("clear: operation 1 again", x.operation(0, 1, 2), 1);
        due("clear: operation 2 again", x.operation(1, 1, 4), 2);
        due("clear: operation 3 again", x.operation(1, 0, 5), 3);
        return x;
    }

    private static void clearMakesRoomAgain() {
        JobShop x = twelve(50);
        x.clear();
        for (int j = 0; j < 4; j++) {
            due("clear: room for job " + j, x.job(), j);
        }
        due("clear: no fifth job", x.job(), FULL);
        for (int i = 0; i < 12; i++) {
            due("clear: room for operation " + i, x.operation(i / 3, i % 3, 50), i);
        }
        due("clear: no thirteenth operation", x.operation(3, 3, 1), FULL);
    }

    private static void clearForgetsThePlanOfNothing() {
        JobShop x = new JobShop();
        x.solve();
        due("the plan of nothing: OPTIMA", x.optima(), 1);
        due("clear: nothing", x.clear(), 0);
        hasNoPlan("clear: the plan of nothing", x);
    }

    // Promise 3: job.

    private static void jobsHaveNumbers0To3() {
        JobShop x = new JobShop();
        for (int j = 0; j < 4; j++) {
            due("job: none such yet, " + j, x.operation(j, 0, 1), BAD);
            due("job: number", x.job(), j);
            due("job: how many", x.count(0), j + 1);
            due("job: there is one now, " + j, x.operation(j, 0, 1), j);
        }
    }

    private static void fifthJobIsFull() {
        JobShop x = shop(row(), row(), row());
        due("job: the fourth", x.job(), 3);
        due("job: the fifth", x.job(), FULL);
        due("job: the fifth again", x.job(), FULL);
        due("job: four of them", x.count(0), 4);
        due("job: no operation of the fifth", x.operation(4, 0, 1), BAD);
        due("job: an operation of the fourth", x.operation(3, 0, 1), 0);
    }

    private static void fullJobLeavesAllAsItWas() {
        leaves("job: full", Boundaries::busyTwelve, JobShop::job, FULL);
    }

    // Promise 4: operation.

    private static void operationOfNoSuchJob() {
        for (int jobs = 0; jobs <= 4; jobs++) {
            JobShop x = shop(new int[jobs][0]);
            for (int bad : new int[] {-1, jobs, jobs + 1, 4, MIN, MAX}) {
                due("operation: job " + bad + " of " + jobs, x.operation(bad, 0, 1), BAD);
            }
            if (jobs > 0) {
                due("operation: the last job of " + jobs, x.operation(jobs - 1, 0, 1), 0);
                due("operation: its job", x.told(0, 0), jobs - 1);
            }
        }
    }

    private static void operationOnNoSuchMachine() {
        JobShop x = shop(row());
        for (int bad : new int[] {-1, 4, MIN, MAX}) {
            due("operation: machine " + bad, x.operation(0, bad, 1), BAD);
        }
        for (int machine = 0; machine < 4; machine++) {
            due("operation: machine " + machine, x.operation(0, machine, 1), machine);
            due("operation: its machine", x.told(machine, 1), machine);
        }
    }

    private static void operationOfNoSuchDuration() {
        JobShop x = shop(row());
        for (int bad : new int[] {0, -1, 51, MIN, MAX}) {
            due("operation: duration " + bad, x.operation(0, 0, bad), BAD);
        }
        due("operation: duration 1", x.operation(0, 0, 1), 0);
        due("operation: duration 50", x.operation(0, 1, 50), 1);
        due("operation: the least duration", x.told(0, 2), 1);
        due("operation: the greatest duration", x.told(1, 2), 50);
    }

    private static void operationOnItsMachineAgain() {
        JobShop x = shop(row(0, 1, 3, 1), row());
        due("operation: first machine again", x.operation(0, 0, 1), BAD);
        due("operation: last machine again", x.operation(0, 3, 1), BAD);
        due("operation: another job's machine", x.operation(1, 0, 1), 2);
        due("operation: another machine", x.operation(0, 1, 1), 3);
        due("operation: that one again", x.operation(0, 1, 1), BAD);
        due("operation: the other job's again", x.operation(1, 0, 1), BAD);
    }

    private static void thirteenthOperationIsFull() {
        JobShop x = shop(row(), row(), row(), row());
        for (int i = 0; i < 12; i++) {
            due("operation: number", x.operation(i % 4, i / 4, 1), i);
        }
        due("operation: the thirteenth", x.operation(0, 3, 1), FULL);
        due("operation: the thirteenth again", x.operation(3, 3, 50), FULL);
        due("operation: twelve of them", x.count(1), 12);
        due("operation: no number 12", x.told(12, 0), NONE);
    }

    private static void thirteenthIsBadBeforeItIsFull() {
        JobShop x = twelve(1);
        for (int bad : new int[] {-1, 4}) {
            due("operation: full, and job " + bad, x.operation(bad, 3, 1), BAD);
            due("operation: full, and machine " + bad, x.operation(0, bad, 1), BAD);
        }
        due("operation: full, and duration 0", x.operation(0, 3, 0), BAD);
        due("operation: full, and duration 51", x.operation(0, 3, 51), BAD);
        due("operation: full, and its machine again", x.operation(0, 0, 1), BAD);
        due("operation: full, the last one's machine again", x.operation(3, 2, 1), BAD);
        due("operation: full alone", x.operation(3, 3, 1), FULL);
    }

    private static void fullWhereEachJobHasMachinesLeft() {
        int[] job = row(0, 1, 1, 1, 2, 1, 3, 1);
        JobShop x = shop(job, job, job);
        due("operation: three jobs are done", x.operation(2, 3, 1), BAD);
        due("operation: no fourth job yet", x.operation(3, 0, 1), BAD);
        due("operation: a fourth job", x.job(), 3);
        due("operation: the fourth job is full", x.operation(3, 0, 1), FULL);
    }

    private static void refusedOperationLeavesAllAsItWas() {
        leaves("operation: no such job", Boundaries::busy, x -> x.operation(2, 2, 1), BAD);
        leaves("operation: no such machine", Boundaries::busy, x -> x.operation(0, 4, 1), BAD);
        leaves("operation: no such duration", Boundaries::busy, x -> x.operation(0, 2, 51), BAD);
        leaves("operation: its machine again", Boundaries::busy, x -> x.operation(0, 1, 1), BAD);
        leaves("operation: full", Boundaries::busyTwelve, x -> x.operation(3, 3, 1), FULL);
        leaves("operation: bad and full", Boundaries::busyTwelve, x -> x.operation(3, 2, 1), BAD);
    }

    private static void newOperationGoesBehindItsJob() {
        JobShop x = crossing();
        x.before(2, 1);
        due("operation: behind 1", x.operation(0, 3, 50), 4);
        due("operation: told arcs stay", x.arc(2, 1), 1);
        due("operation: no arc more", x.count(2), 1);
        due("operation: its HEAD", x.told(4, 3), 6);
        due("operation: TAIL of 1", x.told(1, 4), 50);
        due("operation: TAIL of 3", x.told(3, 4), 0);
        due("operation: LENGTH", x.length(), 56);
    }
}
