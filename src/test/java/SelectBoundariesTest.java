import java.util.function.Supplier;

/** Boundary cases of promise 11: select. */
public final class SelectBoundariesTest extends Boundaries {
    public static void main(String[] args) {
        selectAtTheNumberThatForces();
        selectForcesOneOfTwoWays();
        selectAgainAndAgain();
        selectIsNotBelowLength();
        selectForcedBothWays();
        selectNoWayButRound();
        selectTakesItsArcsBack();
        selectOfNothing();
        selectOfAnyNumber();
        selectCountsNewArcsAlone();
        finish();
    }

    private static void selectAtTheNumberThatForces() {
        // 3 before 0 is 4 + 5 + 3 + 2 = 14, 0 before 3 is 0 + 3 + 5 + 0 = 8.
        JobShop x = shop(row(0, 3, 1, 2), row(2, 4, 0, 5));
        due("select: 14 is below 15", x.select(15), 0);
        due("select: no arc below 15", x.count(2), 0);
        due("select: 14 is not below 14", x.select(14), 1);
        due("select: the arc", x.arc(0, 3), 1);
        due("select: not the other way", x.arc(3, 0), 0);
    }

    private static void selectForcesOneOfTwoWays() {
        // 1 before 2 is 1 + 2 + 5 + 0 = 8, 2 before 1 is 0 + 5 + 2 + 0 = 7.
        JobShop x = shop(row(1, 1, 0, 2), row(0, 5));
        due("select: neither way", x.select(9), 0);
        due("select: one way", x.select(8), 1);
        due("select: the way that is below", x.arc(2, 1), 1);
        due("select: not the way that is not", x.arc(1, 2), 0);
        JobShop y = shop(row(1, 1, 0, 2), row(0, 5));
        due("select: both ways", y.select(7), NO_WAY);
        JobShop z = shop(row(0, 5, 2, 1), row(1, 1, 0, 2, 3, 9));
        // 0 before 3 is 0 + 5 + 2 + 9 = 16, 3 before 0 is 1 + 2 + 5 + 1 = 9.
        due("select: not yet onto the first operation", z.select(17), 0);
        due("select: onto the first operation", z.select(16), 1);
        due("select: the arc onto the first operation", z.arc(3, 0), 1);
    }

    private static void selectAgainAndAgain() {
        // 4 before 2 puts 3 off to 20, and only by that 1 must go before 3.
        JobShop x = shop(row(3, 9, 1, 10), row(0, 10, 1, 10), row(0, 10, 2, 20));
        due("select: none at 41", x.select(41), 0);
        due("select: two at 40", x.select(40), 2);
        due("select: the first", x.arc(4, 2), 1);
        due("select: the one by it", x.arc(1, 3), 1);
        due("select: none such any more", x.select(40), 0);
    }

    private static void selectIsNotBelowLength() {
        JobShop x = shop(row(0, 3));
        due("select: LENGTH 3 is below 4", x.select(4), 0);
        due("select: LENGTH 3 is not below 3", x.select(3), NO_WAY);
        due("select: LENGTH 3 is not below 2", x.select(2), NO_WAY);
        JobShop y = longest();
        due("select: LENGTH 600 is not below 600", y.select(600), NO_WAY);
        due("select: LENGTH 600 is below 601, and all other pairs go along the path", y.select(601), 15);
        due("select: no pair is left", y.count(3), 0);
        leaves("select: LENGTH", Boundaries::busy, z -> z.select(9), NO_WAY);
    }

    private static void selectForcedBothWays() {
        JobShop x = shop(row(0, 5), row(0, 6));
        due("select: both ways at 11", x.select(11), NO_WAY);
        due("select: no arc", x.count(2), 0);
        due("select: neither way at 12", x.select(12), 0);
        due("select: no arc at 12", x.count(2), 0);
        JobShop y = queue(5, 6, 7, 50);
        due("select: only with 3 there", y.select(57), NO_WAY);
        due("select: neither with 3", y.select(58), 0);
    }

    /** 0, 4, 2 are told to go one behind the other on machine 0; LENGTH is 20. */
    private static JobShop chain() {
        JobShop x = shop(row(0, 2), row(1, 9, 0, 2, 2, 9), row(0, 2));
        x.before(0, 4);
        x.before(4, 2);
        return x;
    }

    private static void selectNoWayButRound() {
        // 0 before 2, along the path, is forced by 9 + 2 + 2 + 13 = 26; 2 before 0, round, by 0 + 2 + 2 + 9 = 13.
        JobShop x = chain();
        due("select: along the path, 26 is below 27", x.select(27), 0);
        due("select: along the path, 26 is not below 26", x.select(26), 1);
        due("select: the arc along the path", x.arc(0, 2), 1);
        JobShop y = chain();
        due("select: along the path, right above LENGTH", y.select(21), 1);
        leaves("select: at LENGTH", SelectBoundariesTest::chain, z -> z.select(20), NO_WAY);
        leaves("select: right before the way round", SelectBoundariesTest::chain, z -> z.select(14), NO_WAY);
        leaves("select: round", SelectBoundariesTest::chain, z -> z.select(13), NO_WAY);
    }

    private static void selectTakesItsArcsBack() {
        // At 40, as above, 4 before 2 and 1 before 3 are forced; 3 before 1 is told here.
        Supplier<JobShop> shop = () -> {
            JobShop x = shop(row(3, 9, 1, 10), row(0, 10, 1, 10), row(0, 10, 2, 20));
            x.before(3, 1);
            x.draft(2, 5);
            x.solve();
            return x;
        };
        leaves("select: an arc is taken back", shop, x -> x.select(40), NO_WAY);
        leaves("select: an arc is taken back once more", shop, x -> x.select(40) + x.select(40), 2 * NO_WAY);
        JobShop y = shop.get();
        due("select: none at 41", y.select(41), 0);
        y.free(1, 3);
        due("select: both at 40", y.select(40), 2);
    }

    private static void selectOfNothing() {
        due("select: nothing told, 0", new JobShop().select(0), NO_WAY);
        due("select: nothing told, 1", new JobShop().select(1), 0);
        due("select: jobs alone, 0", shop(row(), row()).select(0), NO_WAY);
        due("select: jobs alone, 1", shop(row(), row()).select(1), 0);
    }

    private static void selectOfAnyNumber() {
        for (int number : new int[] {MIN, MIN + 1, -1, 0}) {
            leaves("select: " + number, Boundaries::busyTwelve, x -> x.select(number), NO_WAY);
            due("select: nothing told, " + number, new JobShop().select(number), NO_WAY);
        }
        for (int number : new int[] {601, 1000000, MAX - 1, MAX}) {
            leaves("select: " + number, Boundaries::busyTwelve, x -> x.select(number), 0);
            due("select: nothing told, " + number, new JobShop().select(number), 0);
        }
    }

    private static void selectCountsNewArcsAlone() {
        JobShop x = crossing();
        due("select: two new ones", x.select(14), 2);
        due("select: two arcs", x.count(2), 2);
        JobShop y = crossing();
        y.before(0, 3);
        due("select: one beside a told one", y.select(14), 1);
        due("select: two arcs, one told", y.count(2), 2);
        due("select: none beside both", y.select(14), 0);
        due("select: at LENGTH and 1", y.select(10), 0);
        due("select: at LENGTH", y.select(9), NO_WAY);
    }
}
