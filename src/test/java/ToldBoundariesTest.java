import java.util.function.IntUnaryOperator;

/** Boundary cases of promises 8 to 10 and 18: told, length, load, count. */
public final class ToldBoundariesTest extends Boundaries {
    public static void main(String[] args) {
        toldOfNoSuchOperation();
        toldIsNoneBeforeItIsBad();
        toldOfAnotherWhat();
        toldHeadAndTailWithoutAPath();
        toldHeadAndTailAgainstNumbers();
        toldHeadAndTailAreTheGreatest();
        toldOnALongestPath();
        toldStartWithoutThePlan();
        lengthWithoutOperations();
        lengthOfTheLeastAndTheGreatest();
        loadWithoutOperations();
        loadOfNoSuchMachine();
        loadOfAPartOfTheMachine();
        countOfAnotherWhat();
        countOfNothing();
        countOfTheFullShop();
        countOfPairs();
        countOfTheBound();
        countOfLeast();
        finish();
    }

    // Promise 8: told.

    private static void toldOfNoSuchOperation() {
        due("told: nothing told", new JobShop().told(0, 0), NONE);
        due("told: a job alone", shop(row()).told(0, 0), NONE);
        for (int what = 0; what < 7; what++) {
            for (int none : new int[] {-1, 4, 12, MIN, MAX}) {
                due("told: no operation " + none, busy().told(none, what), NONE);
            }
        }
        JobShop x = twelve(7);
        due("told: the last of twelve", x.told(11, 2), 7);
        due("told: behind the last of twelve", x.told(12, 2), NONE);
    }

    private static void toldIsNoneBeforeItIsBad() {
        JobShop x = crossing();
        for (int what : new int[] {-1, 7, MIN, MAX}) {
            due("told: no operation -1, what " + what, x.told(-1, what), NONE);
            due("told: no operation 4, what " + what, x.told(4, what), NONE);
            due("told: operation 3, what " + what, x.told(3, what), BAD);
        }
    }

    private static void toldOfAnotherWhat() {
        JobShop x = busy();
        int[] last = {1, 0, 5, 4, 0, 1, 4};
        x.before(2, 1);
        x.solve();
        for (int what = 0; what < 7; what++) {
            due("told: of 3, what " + what, x.told(3, what), last[what]);
        }
        for (int what : new int[] {-1, 7, 8, MIN, MAX}) {
            due("told: of 3, what " + what, x.told(3, what), BAD);
            due("told: of 0, what " + what, x.told(0, what), BAD);
        }
        leaves("told: bad", Boundaries::busy, y -> y.told(0, 7), BAD);
        leaves("told: none", Boundaries::busy, y -> y.told(4, 0), NONE);
        int[] first = {0, 0, 3, 0, 5, 0, 0};
        for (int k = 0; k < 7; k++) {
            int what = k;
            leaves("told: what " + what, Boundaries::busy, y -> y.told(0, what), first[what]);
        }
    }

    private static void toldHeadAndTailWithoutAPath() {
        JobShop x = shop(row(0, 50));
        due("told: HEAD of the only one", x.told(0, 3), 0);
        due("told: TAIL of the only one", x.told(0, 4), 0);
        JobShop y = crossing();
        due("told: HEAD of a first one", y.told(2, 3), 0);
        due("told: TAIL of a first one", y.told(2, 4), 5);
        due("told: HEAD of a last one", y.told(3, 3), 4);
        due("told: TAIL of a last one", y.told(3, 4), 0);
        JobShop z = longest();
        due("told: HEAD of the last of twelve", z.told(11, 3), 550);
        due("told: TAIL of the last of twelve", z.told(11, 4), 0);
        due("told: HEAD of the first of twelve", z.told(0, 3), 0);
        due("told: TAIL of the first of twelve", z.told(0, 4), 550);
    }

    private static void toldHeadAndTailAgainstNumbers() {
        JobShop x = queue(1, 2, 3, 4);
        x.before(3, 2);
        x.before(2, 1);
        x.before(1, 0);
        int[] heads = {9, 7, 4, 0};
        int[] tails = {0, 1, 3, 6};
        for (int i = 0; i < 4; i++) {
            due("told: HEAD against numbers of " + i, x.told(i, 3), heads[i]);
            due("told: TAIL against numbers of " + i, x.told(i, 4), tails[i]);
        }
    }

    private static void toldHeadAndTailAreTheGreatest() {
        // To 3 lead 0 (7), 1 (9) and 2 (8); from 3 back only what is told.
        JobShop x = queue(7, 9, 8, 1);
        x.before(0, 3);
        due("told: HEAD along one arc", x.told(3, 3), 7);
        x.before(1, 3);
        x.before(2, 3);
        due("told: HEAD along the greatest of three", x.told(3, 3), 9);
        x.before(0, 2);
        due("told: HEAD along two", x.told(3, 3), 15);
        due("told: TAIL along two", x.told(0, 4), 9);
        due("told: TAIL along one", x.told(1, 4), 1);
        x.free(2, 3);
        due("told: HEAD along one again", x.told(3, 3), 9);
        due("told: TAIL along the greater of two", x.told(0, 4), 8);
    }

    private static void toldOnALongestPath() {
        JobShop x = shop(row(0, 5), row(1, 5), row(2, 4), row(3, 6));
        int[] six = {0, 0, 0, 1};
        for (int i = 0; i < 4; i++) {
            due("told: is LENGTH, " + i, x.told(i, 5), six[i]);
        }
        JobShop y = shop(row(0, 5), row(1, 5), row(2, 4), row(3, 5));
        int[] five = {1, 1, 0, 1};
        for (int i = 0; i < 4; i++) {
            due("told: is LENGTH with others, " + i, y.told(i, 5), five[i]);
        }
        JobShop z = longest();
        for (int i = 0; i < 12; i++) {
            due("told: is LENGTH with all, " + i, z.told(i, 5), 1);
        }
    }

    private static void toldStartWithoutThePlan() {
        JobShop x = crossing();
        for (int i = 0; i < 4; i++) {
            due("told: START without the plan", x.told(i, 6), NONE);
        }
        x.solve();
        int[] starts = {0, 4, 0, 4};
        for (int i = 0; i < 4; i++) {
            due("told: START of " + i, x.told(i, 6), starts[i]);
        }
        due("told: START of none such", x.told(4, 6), NONE);
        leaves("told: START without the plan", Boundaries::open, y -> y.told(1, 6), NONE);
    }

    // Promise 9: length.

    private static void lengthWithoutOperations() {
        due("length: nothing told", new JobShop().length(), 0);
        due("length: jobs alone", shop(row(), row(), row(), row()).length(), 0);
        JobShop x = busy();
        x.clear();
        due("length: cleared", x.length(), 0);
    }

    private static void lengthOfTheLeastAndTheGreatest() {
        due("length: one of 1", shop(row(0, 1)).length(), 1);
        due("length: one of 50", shop(row(0, 50)).length(), 50);
        due("length: twelve without arcs", twelve(50).length(), 150);
        due("length: twelve on one path", longest().length(), 600);
        leaves("length", Boundaries::busy, JobShop::length, 9);
    }

    // Promise 10: load.

    private static void loadWithoutOperations() {
        for (int machine = 0; machine < 4; machine++) {
            due("load: nothing told", new JobShop().load(machine), 0);
            due("load: jobs alone", shop(row(), row()).load(machine), 0);
            for (int used = 0; used < 4; used++) {
                int want = machine == used ? 1 : 0;
                due("load: of " + machine + ", used is " + used, shop(row(used, 1)).load(machine), want);
            }
        }
        JobShop x = twelve(50);
        x.clear();
        due("load: cleared", x.load(0), 0);
    }

    private static void loadOfNoSuchMachine() {
        for (int bad : new int[] {-1, 4, 5, MIN, MAX}) {
            due("load: machine " + bad, busy().load(bad), BAD);
            due("load: nothing told, machine " + bad, new JobShop().load(bad), BAD);
        }
        due("load: the first machine", crossing().load(0), 9);
        due("load: the last machine", shop(row(3, 50), row(3, 49)).load(3), 99);
        leaves("load: bad", Boundaries::busy, x -> x.load(4), BAD);
        leaves("load: good", Boundaries::busy, x -> x.load(1), 9);
    }

    private static void loadOfAPartOfTheMachine() {
        // On machine 0: 0 has HEAD 0, TAIL 0; 2 has HEAD 20, TAIL 5; 5 has HEAD 10, TAIL 30.
        JobShop x = shop(row(0, 2), row(1, 20, 0, 3, 2, 5), row(3, 10, 0, 4, 1, 30));
        due("load: one of three", x.load(0), 44);
        // All of machine 1: HEAD 0 at least, 20 and 30, TAIL 0 at least; 1 alone: 0, 20, 8.
        due("load: two of two", x.load(1), 50);
        // Two of the three go behind HEAD 10 and before TAIL 5.
        JobShop y = shop(row(0, 1), row(1, 10, 0, 9, 2, 5), row(3, 10, 0, 8, 2, 5));
        due("load: two of three", y.load(0), 32);
        JobShop z = twelve(50);
        due("load: four of twelve, first", z.load(0), 300);
        due("load: four of twelve, last", z.load(2), 300);
    }

    // Promise 18: count.

    private static void countOfAnotherWhat() {
        IntUnaryOperator[] counts = {new JobShop()::count, busy()::count, busyTwelve()::count};
        for (IntUnaryOperator count : counts) {
            for (int bad : new int[] {-1, 6, 7, MIN, MAX}) {
                due("count: what " + bad, count.applyAsInt(bad), BAD);
            }
        }
        int[] want = {2, 4, 1, 1, 9, 9};
        for (int what = 0; what < 6; what++) {
            int asked = what;
            leaves("count: what " + what, Boundaries::busy, x -> x.count(asked), want[what]);
        }
        leaves("count: bad", Boundaries::busy, x -> x.count(6), BAD);
    }

    private static void countOfNothing() {
        for (int what = 0; what < 5; what++) {
            due("count: nothing told, what " + what, new JobShop().count(what), 0);
        }
        JobShop x = shop(row(), row(), row());
        int[] want = {3, 0, 0, 0, 0, NONE};
        for (int what = 0; what < 6; what++) {
            due("count: jobs alone, what " + what, x.count(what), want[what]);
        }
    }

    private static void countOfTheFullShop() {
        JobShop x = twelve(50);
        int[] want = {4, 12, 0, 18, 300, NONE};
        for (int what = 0; what < 6; what++) {
            due("count: full, what " + what, x.count(what), want[what]);
        }
        x.job();
        x.operation(0, 3, 1);
        due("count: no fifth job", x.count(0), 4);
        due("count: no thirteenth", x.count(1), 12);
    }

    private static void countOfPairs() {
        JobShop x = queue(1, 1, 1, 1);
        due("count: all pairs", x.count(3), 6);
        int arcs = 0;
        for (int a = 0; a < 4; a++) {
            for (int b = a + 1; b < 4; b++) {
                x.before(b, a);
                arcs++;
                due("count: arcs", x.count(2), arcs);
                due("count: pairs without", x.count(3), 6 - arcs);
            }
        }
        x.before(3, 0);
        x.before(0, 3);
        due("count: no arc twice", x.count(2), 6);
        x.free(0, 3);
        due("count: an arc less", x.count(2), 5);
        due("count: a pair more", x.count(3), 1);
    }

    private static void countOfTheBound() {
        due("count: LENGTH as all LOADS", shop(row(0, 3, 1, 4, 2, 9), row(0, 1, 3, 2)).count(4), 16);
        due("count: LOAD is greater", shop(row(0, 3, 1, 4), row(1, 5)).count(4), 9);
        for (int machine = 0; machine < 4; machine++) {
            due("count: LOAD of " + machine, shop(row(machine, 30), row(machine, 40)).count(4), 70);
        }
        due("count: LENGTH of all", longest().count(4), 600);
    }

    private static void countOfLeast() {
        JobShop x = crossing();
        due("count: LEAST without the plan", x.count(5), NONE);
        leaves("count: LEAST without the plan", Boundaries::open, y -> y.count(5), NONE);
        due("count: LEAST", x.solve(), x.count(5));
        x.before(1, 2);
        due("count: LEAST without it any more", x.count(5), NONE);
        x.solve();
        due("count: another LEAST", x.count(5), 14);
    }
}
