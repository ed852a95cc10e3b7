import java.util.function.Supplier;

/** Boundary cases of promises 15 to 17: draft, check, adopt. */
public final class DraftBoundariesTest extends Boundaries {
    public static void main(String[] args) {
        draftAtFirst();
        draftBehindOperation();
        draftStandsOverAllElse();
        draftOfNoSuchOperation();
        draftOutsideItsRange();
        badDraftLeavesAllAsItWas();
        checkWithoutOperations();
        checkEndsAtTheNextBeginning();
        checkLooksAtTheNextOfAJobAlone();
        checkAlongArcs();
        checkFirstAndLastOutOfOrder();
        checkOrderGoesFirst();
        checkUnderWayAtATime();
        checkFirstAndLastAtATime();
        checkOfOtherMachines();
        checkOfTheLatestDraft();
        adoptWithoutThePlan();
        adoptTakesEachStart();
        adoptLeavesThePlan();
        finish();
    }

    // Promise 15: draft.

    private static void draftAtFirst() {
        JobShop x = twelve(1);
        for (int i = 0; i < 12; i++) {
            due("draft: at first, " + i, x.draft(i, i + 1), 0);
        }
        for (int i = 0; i < 12; i++) {
            due("draft: what it was, " + i, x.draft(i, 0), i + 1);
        }
    }

    private static void draftBehindOperation() {
        JobShop x = crossing();
        drafts(x, 1, 2, 3, 1000);
        due("draft: a job more", x.job(), 2);
        due("draft: behind job(), the last one", x.draft(3, 1000), 1000);
        due("draft: an operation more", x.operation(2, 0, 1), 4);
        for (int i = 0; i < 5; i++) {
            due("draft: behind operation(), " + i, x.draft(i, 9), 0);
        }
        x.clear();
        x.job();
        x.operation(0, 0, 1);
        due("draft: behind clear() and operation()", x.draft(0, 0), 0);
    }

    private static void draftStandsOverAllElse() {
        JobShop x = crossing();
        drafts(x, 5, 6, 7, 8);
        x.before(0, 3);
        due("draft: over before()", x.draft(0, 5), 5);
        x.free(0, 3);
        due("draft: over free()", x.draft(1, 6), 6);
        due("draft: arcs are made", x.select(14), 2);
        due("draft: over select()", x.draft(2, 7), 7);
        due("draft: no arcs are made", x.select(9), NO_WAY);
        due("draft: over select(), no way", x.draft(3, 8), 8);
        x.solve();
        due("draft: over solve()", x.draft(0, 5), 5);
        x.check();
        due("draft: over check()", x.draft(1, 6), 6);
    }

    private static void draftOfNoSuchOperation() {
        due("draft: nothing told", new JobShop().draft(0, 0), BAD);
        due("draft: a job alone", shop(row()).draft(0, 0), BAD);
        JobShop x = crossing();
        for (int bad : new int[] {-1, 4, 11, 12, MIN, MAX}) {
            due("draft: operation " + bad, x.draft(bad, 0), BAD);
        }
        due("draft: the last operation", x.draft(3, 1), 0);
        JobShop y = twelve(1);
        due("draft: the last of twelve", y.draft(11, 1), 0);
        due("draft: behind the last of twelve", y.draft(12, 1), BAD);
    }

    private static void draftOutsideItsRange() {
        JobShop x = crossing();
        due("draft: 1000", x.draft(0, 1000), 0);
        for (int bad : new int[] {-1, 1001, MIN, MAX}) {
            due("draft: start " + bad, x.draft(0, bad), BAD);
        }
        due("draft: 0", x.draft(0, 0), 1000);
        due("draft: was 0", x.draft(0, 999), 0);
        due("draft: was 999", x.draft(0, 1), 999);
    }

    private static void badDraftLeavesAllAsItWas() {
        leaves("draft: start -1", Boundaries::busy, x -> x.draft(1, -1), BAD);
        leaves("draft: start 1001", Boundaries::busy, x -> x.draft(3, 1001), BAD);
        leaves("draft: operation 4", Boundaries::busy, x -> x.draft(4, 5), BAD);
        leaves("draft: operation -1", Boundaries::busy, x -> x.draft(-1, 5), BAD);
        leaves("draft: as it is", Boundaries::busy, x -> x.draft(1, 7), 7);
        JobShop x = busy();
        x.draft(2, 9);
        hasPlan("draft: the plan stands", x, 9, 1);
    }

    // Promise 16: check.

    private static void checkWithoutOperations() {
        due("check: nothing told", new JobShop().check(), 0);
        due("check: jobs alone", shop(row(), row()).check(), 0);
        JobShop x = busy();
        x.clear();
        due("check: cleared", x.check(), 0);
        due("check: one of 1", shop(row(0, 1)).check(), 1);
    }

    private static void checkEndsAtTheNextBeginning() {
        JobShop x = shop(row(0, 3, 1, 2));
        due("check: at first", x.check(), -10);
        x.draft(1, 2);
        due("check: over behind the next beginning", x.check(), -10);
        x.draft(1, 3);
        due("check: over at the next beginning", x.check(), 5);
        x.draft(1, 4);
        due("check: later", x.check(), 6);
        x.draft(0, 1);
        due("check: both later", x.check(), 6);
        x.draft(0, 2);
        due("check: both later, and behind", x.check(), -10);
    }

    private static void checkLooksAtTheNextOfAJobAlone() {
        // 0 is over at 5, behind the beginning of 2, which is not its next one; 1 is the one at fault.
        JobShop x = shop(row(0, 5, 1, 1, 2, 1));
        drafts(x, 0, 5, 3);
        due("check: not the next one", x.check(), -11);
        drafts(x, 0, 5, 6);
        due("check: each next one", x.check(), 7);
        // 0 and 2 are of one job, 1 of another one in between.
        JobShop y = new JobShop();
        y.job();
        y.job();
        y.operation(0, 0, 4);
        y.operation(1, 1, 4);
        y.operation(0, 2, 4);
        drafts(y, 0, 0, 3);
        due("check: the next one has not the next number", y.check(), -10);
        drafts(y, 0, 0, 4);
        due("check: the next number is another job's", y.check(), 8);
    }

    private static void checkAlongArcs() {
        JobShop x = shop(row(0, 3), row(0, 2));
        drafts(x, 2, 0);
        due("check: no arc", x.check(), 5);
        x.before(1, 0);
        due("check: over when the arc's other end begins", x.check(), 5);
        x.draft(1, 1);
        due("check: over behind it", x.check(), -11);
        x.free(0, 1);
        due("check: without the arc at a time", x.check(), -30);
        x.before(0, 1);
        due("check: the other arc", x.check(), -10);
        x.draft(1, 5);
        due("check: along the other arc", x.check(), 7);
    }

    private static void checkFirstAndLastOutOfOrder() {
        JobShop x = longest();
        x.solve();
        x.adopt();
        x.draft(0, 1);
        due("check: the first one", x.check(), -10);
        x.draft(10, 501);
        due("check: the first of two", x.check(), -10);
        x.draft(0, 0);
        due("check: the last but one", x.check(), -20);
        JobShop y = twelve(1);
        drafts(y, 0, 1, 2, 1, 2, 3, 2, 3, 4, 3, 4, 5);
        due("check: twelve in order", y.check(), 6);
        y.before(11, 8);
        due("check: the last one", y.check(), -21);
        y.before(8, 5);
        due("check: one before the last one", y.check(), -18);
    }

    private static void checkOrderGoesFirst() {
        JobShop x = shop(row(0, 5), row(0, 5), row(1, 5, 2, 5));
        drafts(x, 0, 4, 0, 4);
        due("check: order of 2 before 0 and 1 at a time", x.check(), -12);
        x.draft(3, 5);
        due("check: 0 and 1 at a time", x.check(), -30);
        x.draft(1, 5);
        due("check: neither", x.check(), 10);
    }

    private static void checkUnderWayAtATime() {
        JobShop x = shop(row(0, 5), row(0, 3));
        int[] begins = {0, 1, 2, 4, 5, 6};
        int[] forth = {-30, -30, -30, -30, 8, 9};
        for (int k = 0; k < begins.length; k++) {
            drafts(x, 0, begins[k]);
            due("check: 0 at 0, 1 at " + begins[k], x.check(), forth[k]);
        }
        int[] back = {-30, -30, -30, 9, 10, 11};
        for (int k = 0; k < begins.length; k++) {
            drafts(x, begins[k], 0);
            due("check: 1 at 0, 0 at " + begins[k], x.check(), back[k]);
        }
        drafts(x, 3, 0);
        due("check: 1 is over when 0 begins", x.check(), 8);
    }

    private static void checkFirstAndLastAtATime() {
        JobShop x = queue(2, 2, 2, 2);
        drafts(x, 0, 10, 20, 1);
        due("check: 0 with 3", x.check(), -30);
        drafts(x, 0, 10, 11, 10);
        due("check: 1 with 2 and 3", x.check(), -31);
        drafts(x, 0, 10, 20, 19);
        due("check: 2 with 3", x.check(), -32);
        drafts(x, 0, 10, 20, 22);
        due("check: none", x.check(), 24);
        JobShop y = shop(row(0, 1, 1, 1), row(0, 1, 1, 1), row(0, 1, 1, 1), row(2, 1, 1, 1, 0, 1));
        y.job();
        due("check: nine told", y.count(1), 9);
        y.operation(0, 3, 1);
        y.operation(1, 2, 1);
        y.operation(0, 2, 1);
        drafts(y, 0, 1, 1, 2, 2, 3, 0, 9, 10, 2, 5, 5);
        due("check: 10 with 11", y.check(), -40);
        y.draft(11, 6);
        due("check: 10 before 11", y.check(), 11);
    }

    private static void checkOfOtherMachines() {
        JobShop x = shop(row(0, 5), row(1, 5), row(2, 5), row(3, 5));
        due("check: each on its own machine", x.check(), 5);
        leaves("check", Boundaries::busy, JobShop::check, 1005);
        Supplier<JobShop> late = behind(Boundaries::busy, y -> y.draft(0, 6));
        leaves("check: out of order", late, JobShop::check, -10);
        Supplier<JobShop> atATime = behind(Boundaries::busy, y -> y.draft(2, 8));
        leaves("check: at a time", atATime, JobShop::check, -31);
    }

    private static void checkOfTheLatestDraft() {
        JobShop x = shop(row(0, 50), row(0, 50));
        x.draft(0, 1000);
        due("check: the latest end", x.check(), 1050);
        x.draft(1, 951);
        due("check: at a time at 1000", x.check(), -30);
        x.draft(1, 950);
        due("check: end to end at 1000", x.check(), 1050);
    }

    // Promise 17: adopt.

    private static void adoptWithoutThePlan() {
        due("adopt: nothing told", new JobShop().adopt(), NONE);
        leaves("adopt: no plan yet", Boundaries::open, JobShop::adopt, NONE);
        Supplier<JobShop> ended = behind(Boundaries::busy, x -> x.before(2, 1));
        leaves("adopt: no plan any more", ended, JobShop::adopt, NONE);
        JobShop y = new JobShop();
        y.solve();
        due("adopt: the plan of nothing", y.adopt(), 0);
    }

    private static void adoptTakesEachStart() {
        JobShop x = busyTwelve();
        int least = x.count(5);
        due("adopt: its makespan", x.adopt(), least);
        due("adopt: checked", x.check(), least);
        for (int i = 0; i < 12; i++) {
            due("adopt: draft of " + i, x.draft(i, 1000), x.told(i, 6));
        }
    }

    private static void adoptLeavesThePlan() {
        JobShop x = busy();
        x.adopt();
        hasPlan("adopt", x, 9, 1);
        x.draft(0, 500);
        due("adopt: the plan is not the draft", x.told(0, 6), 0);
        due("adopt: again", x.adopt(), 9);
        due("adopt: the plan's start again", x.draft(0, 0), 0);
        due("adopt: arcs", x.count(2), 1);
    }
}
