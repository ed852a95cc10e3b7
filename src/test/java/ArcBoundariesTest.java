import java.util.function.IntBinaryOperator;

/** Boundary cases of promises 5 to 7: before, free, arc. */
public final class ArcBoundariesTest extends Boundaries {
    public static void main(String[] args) {
        pairOfNoSuchOperations();
        pairOfTheSameOne();
        pairOfDifferentMachines();
        badPairLeavesAllAsItWas();
        beforeIsBadBeforeItIsRound();
        beforeIsThereAlready();
        beforeRoundByAnArc();
        beforeRoundByAPathOfArcs();
        beforeRoundByAPathOfJobs();
        beforeRoundByTheLongestPath();
        beforeAlongAPath();
        roundLeavesAllAsItWas();
        freeWhicheverWay();
        freeWithoutAnArc();
        freeTakesOneArcAlone();
        arcOneWayAlone();
        finish();
    }

    private static void eachPairCall(String what, JobShop x, int a, int b, int want) {
        IntBinaryOperator[] calls = {x::before, x::free, x::arc};
        String[] names = {"before", "free", "arc"};
        for (int k = 0; k < calls.length; k++) {
            due(names[k] + ": " + what, calls[k].applyAsInt(a, b), want);
        }
    }

    private static void pairOfNoSuchOperations() {
        JobShop x = new JobShop();
        eachPairCall("nothing told", x, 0, 1, BAD);
        x = crossing();
        for (int bad : new int[] {-1, 4, 12, 32, 35, MIN, MAX}) {
            eachPairCall("first is " + bad, x, bad, 0, BAD);
            eachPairCall("second is " + bad, x, 3, bad, BAD);
            eachPairCall("both are " + bad, x, bad, bad, BAD);
        }
        x = twelve(1);
        eachPairCall("first is 12", x, 12, 0, BAD);
        eachPairCall("second is 12", x, 0, 12, BAD);
        due("before: the last one", x.before(11, 2), 1);
        due("arc: the last one", x.arc(11, 2), 1);
        due("free: the last one", x.free(11, 2), 1);
        due("before: onto the last one", x.before(2, 11), 1);
    }

    private static void pairOfTheSameOne() {
        JobShop x = crossing();
        for (int i = 0; i < 4; i++) {
            eachPairCall("the same one, " + i, x, i, i, BAD);
        }
    }

    private static void pairOfDifferentMachines() {
        JobShop x = crossing();
        eachPairCall("of different machines", x, 0, 2, BAD);
        eachPairCall("of different machines, back", x, 2, 0, BAD);
        eachPairCall("of one job", x, 0, 1, BAD);
        due("arc: of one machine", x.arc(0, 3), 0);
        due("free: of one machine", x.free(0, 3), 0);
        due("before: of one machine", x.before(0, 3), 1);
    }

    private static void badPairLeavesAllAsItWas() {
        leaves("before: bad", Boundaries::busy, x -> x.before(4, 0), BAD);
        leaves("before: the same one", Boundaries::busy, x -> x.before(1, 1), BAD);
        leaves("before: different machines", Boundaries::busy, x -> x.before(0, 2), BAD);
        leaves("free: bad", Boundaries::busy, x -> x.free(0, 4), BAD);
        leaves("free: the same one", Boundaries::busy, x -> x.free(3, 3), BAD);
        leaves("free: different machines", Boundaries::busy, x -> x.free(0, 1), BAD);
        leaves("arc: bad", Boundaries::busy, x -> x.arc(-1, 0), BAD);
        leaves("arc: there", Boundaries::busy, x -> x.arc(0, 3), 1);
        leaves("arc: not there", Boundaries::busy, x -> x.arc(3, 0), 0);
    }

    private static void beforeIsBadBeforeItIsRound() {
        JobShop x = crossing();
        due("before: against its job", x.before(1, 0), BAD);
        x.before(0, 3);
        due("before: 0, 3 is a path, but 3 and 1 have different machines", x.before(3, 1), BAD);
    }

    private static void beforeIsThereAlready() {
        JobShop x = crossing();
        due("before: new", x.before(0, 3), 1);
        due("before: there", x.before(0, 3), 0);
        due("before: there still", x.before(0, 3), 0);
        due("before: one arc", x.count(2), 1);
        leaves("before: there", Boundaries::busy, y -> y.before(0, 3), 0);
    }

    private static void beforeRoundByAnArc() {
        JobShop x = crossing();
        x.before(0, 3);
        due("before: back along an arc", x.before(3, 0), ROUND);
        due("before: another machine", x.before(2, 1), 1);
        x.free(0, 3);
        due("before: no arc any more", x.before(3, 0), 1);
        due("before: back again", x.before(0, 3), ROUND);
    }

    private static void beforeRoundByAPathOfArcs() {
        JobShop x = queue(1, 1, 1, 1);
        x.before(3, 1);
        x.before(1, 2);
        due("before: round 3, 1, 2", x.before(2, 3), ROUND);
        due("before: no arc from it", x.arc(2, 3), 0);
        due("before: 0 is on no path", x.before(2, 0), 1);
        due("before: round 3, 1, 2, 0", x.before(0, 3), ROUND);
        x.free(1, 2);
        due("before: the path is broken", x.before(2, 3), 1);
    }

    private static void beforeRoundByAPathOfJobs() {
        JobShop x = shop(row(0, 1, 1, 1), row(1, 1, 2, 1), row(2, 1, 0, 1));
        x.before(1, 2);
        due("before: not yet a path", x.before(5, 0), 1);
        due("before: 5, 0, 1, 2, 3 is a path to 3", x.before(3, 4), ROUND);
        due("before: the other way", x.before(4, 3), 1);
        x.free(0, 5);
        due("before: back to 0", x.before(0, 5), 1);
    }

    private static void beforeRoundByTheLongestPath() {
        JobShop x = longest();
        due("before: round all twelve", x.before(11, 0), ROUND);
        due("before: round all but two", x.before(10, 1), ROUND);
        due("before: along all twelve", x.before(0, 11), 1);
    }

    private static void beforeAlongAPath() {
        JobShop x = queue(1, 1, 1, 1);
        x.before(0, 1);
        x.before(1, 2);
        due("before: a path is no arc", x.before(0, 2), 1);
        due("before: three arcs", x.count(2), 3);
    }

    private static void roundLeavesAllAsItWas() {
        leaves("before: round by an arc", Boundaries::busy, x -> x.before(3, 0), ROUND);
        leaves("before: round by jobs", Boundaries::longest, x -> x.before(11, 0), ROUND);
    }

    private static void freeWhicheverWay() {
        JobShop x = crossing();
        x.before(0, 3);
        due("free: as it was told", x.free(0, 3), 1);
        due("free: no more", x.free(0, 3), 0);
        x.before(0, 3);
        due("free: the other way", x.free(3, 0), 1);
        due("free: no more, the other way", x.free(3, 0), 0);
        leaves("free: what before made", Boundaries::crossing, y -> y.before(0, 3) + y.free(0, 3), 2);
        leaves("free: what before made, the other way", Boundaries::crossing, y -> y.before(3, 0) + y.free(0, 3), 2);
    }

    private static void freeWithoutAnArc() {
        leaves("free: no arc", Boundaries::busy, x -> x.free(1, 2), 0);
        leaves("free: no arc, the other way", Boundaries::busy, x -> x.free(2, 1), 0);
        JobShop x = queue(1, 1, 1, 1);
        x.before(0, 1);
        x.before(1, 2);
        due("free: a path is no arc", x.free(0, 2), 0);
        due("free: nor the other way", x.free(2, 0), 0);
        due("free: both arcs are there", x.count(2), 2);
    }

    private static void freeTakesOneArcAlone() {
        JobShop x = queue(1, 2, 3, 4);
        x.before(0, 1);
        x.before(0, 2);
        x.before(1, 2);
        x.before(3, 0);
        due("free: one of four", x.free(2, 0), 1);
        due("free: from 0 to 1", x.arc(0, 1), 1);
        due("free: from 1 to 2", x.arc(1, 2), 1);
        due("free: from 3 to 0", x.arc(3, 0), 1);
        due("free: three of four", x.count(2), 3);
        due("free: HEAD by those that are left", x.told(2, 3), 7);
    }

    private static void arcOneWayAlone() {
        JobShop x = queue(1, 1, 1, 1);
        due("arc: none", x.arc(0, 1), 0);
        x.before(1, 0);
        x.before(0, 2);
        due("arc: against its way", x.arc(0, 1), 0);
        due("arc: its way", x.arc(1, 0), 1);
        due("arc: a path", x.arc(1, 2), 0);
        x.free(0, 1);
        due("arc: freed", x.arc(1, 0), 0);
    }
}
