import java.util.Arrays;
import java.util.List;
import java.util.function.Supplier;

/** The edges of days that go by and of what would be: their limits, and that it comes as was told. */
public final class AheadEdgeTest {
    private static final Check CHECK = new Check();

    public static void main(String[] args) {
        passesOneDayAndThirty();
        tellsHowManyAreAdoptedInThem();
        looksOneDayAheadAndThirty();
        looksFortyDaysAhead();
        tellsOfThoseWhoHaveGone();
        comesAsWasTold();
        looksAheadWithItsHouses();
        feedsOneThatSavesTwo();
        feedsTheFirstOfSeveral();
        feedsWhoCanBeFed();
        feedsForTenDays();
        paysForTheMeal();
        changesNothing();
        meansOfAllThatAreHere();
        digestsItsNumbers();
        CHECK.end();
    }

    // ---- days

    private static void passesOneDayAndThirty() {
        MarkShelter x = Check.taught("stray a is stop on 0; stray b is stop on 29; stray c is stop on 30; house a; house b;"
            + "house c; offer a; offer b; offer c;");
        CHECK.badArgument("34: no day", () -> x.passDays(0));
        CHECK.equal("34: one day", 1, x.passDays(1));
        CHECK.equal("9: day 1", 1, x.day());
        CHECK.badArgument("34: 31 days", () -> x.passDays(31));
        CHECK.equal("9: still day 1", 1, x.day());
        CHECK.equal("34: thirty days", 2, x.passDays(30));
        CHECK.equal("9: day 31", 31, x.day());
        MarkShelter y = Check.taught("stray b is stop on 29; stray c is stop on 30; house b; house c; offer b; offer c;");
        CHECK.equal("34: thirty days end ahead of the orders of day 30", 1, y.passDays(30));
        CHECK.equal("17: who comes in day 30 is here", true, y.isHere(1));
        for (int i = 0; i < 300; i++) {
            x.passDays(30);
        }
        CHECK.equal("9: days are not limited", 9031, x.day());
    }

    private static void tellsHowManyAreAdoptedInThem() {
        MarkShelter x = Check.taught("coins 99; stray a is quote on 0; stray b is quote on 0; stray c is stop on 0;"
            + "stray d is stop on 2; house a; house b; house c; house d; train a; train b; feed a; feed b; offer a;"
            + "offer d; feed c when day=2; offer c when day=4;");
        int[] due = {0, 2, 1, 0, 1, 0};
        for (int i = 0; i < due.length; i++) {
            CHECK.equal("34: adopted in day " + i, due[i], x.passDays(1));
        }
        CHECK.equal("12: in all", 4, x.adopted());
    }

    private static void looksOneDayAheadAndThirty() {
        MarkShelter x = Check.taught("stray a is stop on 0; stray b is stop on 29; stray c is stop on 30; stray d is dash on 25;"
            + "stray e is dash on 26; stray f is quote on 0; house a; house b; house c; offer a; offer b; offer c;");
        CHECK.badArgument("35: no day", () -> x.adoptedAfter(0));
        CHECK.badArgument("36: no day", () -> x.goneAfter(0));
        CHECK.equal("35: one day", 1, x.adoptedAfter(1));
        CHECK.equal("36: one day", 1, x.goneAfter(1));
        CHECK.equal("35: 29 days", 1, x.adoptedAfter(29));
        CHECK.equal("36: 29 days", 1, x.goneAfter(29));
        CHECK.equal("35: thirty days", 2, x.adoptedAfter(30));
        CHECK.equal("36: thirty days", 2, x.goneAfter(30));
        CHECK.badArgument("35: 31 days", () -> x.adoptedAfter(31));
        CHECK.badArgument("36: 31 days", () -> x.goneAfter(31));
        x.passDays(1);
        CHECK.equal("35: those of all days", 3, x.adoptedAfter(30));
        CHECK.equal("36: those of all days", 3, x.goneAfter(30));
    }

    private static void looksFortyDaysAhead() {
        for (int last = 30; last <= 34; last++) {
            // fed up to this day it has hunger 1 behind it, and 9 behind eight days more
            MarkShelter x = Check.taught("coins 99; stray a is dash on 0; feed a when day<=" + last + ";");
            CHECK.equal("37: fed up to day " + last, last <= 31 ? last + 1 + 8 : -1, x.daysUntilGone(0));
            int offered = last + 6;
            MarkShelter y = Check.taught("coins 99; stray a is stop on 0; feed a; house a; offer a when day=" + offered + ";");
            CHECK.equal("38: offered in day " + offered, offered < 40 ? offered + 1 : -1, y.daysUntilAdopted(0));
            CHECK.equal("37: and not gone", -1, y.daysUntilGone(0));
        }
        MarkShelter z = Check.taught("coins 99; stray a is dash on 0; feed a when day<=32;");
        CHECK.equal("37: behind 41 days", -1, z.daysUntilGone(0));
        z.passDays(1);
        CHECK.equal("37: behind 40 days", 40, z.daysUntilGone(0));
    }

    private static void tellsOfThoseWhoHaveGone() {
        MarkShelter x = Check.taught("stray a is quote on 0; stray b is stop on 0; stray c is stop on 0; stray t is comma on 30;"
            + "house b; offer b;");
        CHECK.equal("37: behind one day", 1, x.daysUntilGone(0));
        CHECK.equal("38: behind one day", 1, x.daysUntilAdopted(1));
        CHECK.equal("37: one to come", 33, x.daysUntilGone(3));
        CHECK.equal("38: one to come", -1, x.daysUntilAdopted(3));
        x.passDays(1);
        CHECK.equal("37: gone now", 0, x.daysUntilGone(0));
        CHECK.equal("38: gone now", -1, x.daysUntilAdopted(0));
        CHECK.equal("37: adopted now", -1, x.daysUntilGone(1));
        CHECK.equal("38: adopted now", 0, x.daysUntilAdopted(1));
        CHECK.equal("37: here now", 4, x.daysUntilGone(2));
        CHECK.equal("38: here now", -1, x.daysUntilAdopted(2));
        x.passDays(29);
        CHECK.equal("37: gone long ago", 0, x.daysUntilGone(0));
        CHECK.equal("38: adopted long ago", 0, x.daysUntilAdopted(1));
        x.house(3);
        x.train(3);
        x.offer(3);
        CHECK.equal("38: adopted by hand", 0, x.daysUntilAdopted(3));
    }

    // ---- what would be, and what comes then

    private static MarkShelter small() {
        MarkShelter x = Check.taught("houses 1; coins 4; stray a is stop on 0; stray b is stop on 0; stray c is dash on 0;"
            + "stray d is comma on 3; house b when day=2; offer a when day=1; feed c when hunger of c>5; train c;"
            + "offer c; offer d; feed d; train d when day>3;");
        x.house(0);
        x.house(2);
        x.donate(3);
        return x;
    }

    private static MarkShelter large() {
        StringBuilder book = new StringBuilder("houses 6; coins 30;");
        for (int i = 0; i < 12; i++) {
            book.append("stray s").append(i).append(" is ").append(i < 8 ? "quote" : "dash").append(" on 0;");
        }
        MarkShelter x = Check.taught(book + "train s0; train s1; feed s0; feed s1; feed s2; feed s3; feed s8 when hunger of s8>4; offer s0;"
            + "offer s8; train s8; train s9 when coins>20; feed s6 when coins<20; house s11;");
        for (int i = 0; i < 10; i++) {
            x.house(i);
        }
        x.train(4);
        x.feedStray(4);
        return x;
    }

    private static MarkShelter later() {
        MarkShelter x = large();
        x.passDays(3);
        x.free(2);
        x.feedStray(7);
        return x;
    }

    private static void comesAsWasTold() {
        List<Supplier<MarkShelter>> machines = List.of(AheadEdgeTest::small, AheadEdgeTest::large, AheadEdgeTest::later);
        for (Supplier<MarkShelter> machine : machines) {
            MarkShelter told = machine.get();
            for (int days = 1; days <= 30; days++) {
                MarkShelter x = machine.get();
                x.passDays(days);
                CHECK.equal("35: adoptedAfter " + days, x.adopted(), told.adoptedAfter(days));
                CHECK.equal("36: goneAfter " + days, x.gone(), told.goneAfter(days));
            }
            for (int stray = 0; stray < told.strays(); stray++) {
                CHECK.equal("37: daysUntilGone " + stray, daysUntil(machine.get(), stray, true), told.daysUntilGone(stray));
                CHECK.equal("38: daysUntilAdopted " + stray, daysUntil(machine.get(), stray, false),
                    told.daysUntilAdopted(stray));
            }
            CHECK.equal("39: bestToFeed", best(machine), told.bestToFeed());
        }
        CHECK.equal("some are adopted", List.of(3, 3, 3), machines.stream().map(m -> m.get().adoptedAfter(30)).toList());
        CHECK.equal("some are gone", List.of(1, 9, 9), machines.stream().map(m -> m.get().goneAfter(30)).toList());
    }

    /** A stop is housed and adopted only if its houses, no more and no fewer, have room. */
    private static void looksAheadWithItsHouses() {
        for (int houses = 1; houses <= 6; houses++) {
            for (int housed = 0; housed <= 11 && housed <= 2 * houses; housed++) {
                StringBuilder book = new StringBuilder("houses " + houses + "; stray s is stop on 0;");
                for (int i = 0; i < housed; i++) {
                    book.append("stray d").append(i).append(" is dash on 0;");
                }
                MarkShelter x = Check.taught(book + "house s; offer s;");
                for (int i = 1; i <= housed; i++) {
                    x.house(i);
                }
                boolean room = housed < 2 * houses;
                String what = housed + " in " + houses + " houses";
                CHECK.equal("35: adoptedAfter, " + what, room ? 1 : 0, x.adoptedAfter(4));
                CHECK.equal("36: goneAfter, " + what, housed + (room ? 0 : 1), x.goneAfter(5));
                CHECK.equal("37: daysUntilGone, " + what, room ? -1 : 5, x.daysUntilGone(0));
                CHECK.equal("38: daysUntilAdopted, " + what, room ? 1 : -1, x.daysUntilAdopted(0));
                CHECK.equal("34: passDays, " + what, room ? 1 : 0, x.passDays(4));
            }
        }
    }

    private static int daysUntil(MarkShelter x, int stray, boolean gone) {
        for (int days = 0; days <= 40; days++) {
            if (gone ? x.isGone(stray) : x.isAdopted(stray)) {
                return days;
            }
            x.passDays(1);
        }
        return -1;
    }

    private static int best(Supplier<MarkShelter> machine) {
        MarkShelter without = machine.get();
        without.passDays(10);
        int fewest = without.gone();
        int best = -1;
        for (int i = 0; i < without.strays(); i++) {
            MarkShelter x = machine.get();
            if (x.isHere(i) && x.coins() > 0) {
                x.feedStray(i);
                x.passDays(10);
                best = x.gone() < fewest ? i : best;
                fewest = Math.min(fewest, x.gone());
            }
        }
        return best;
    }

    // ---- whom one had best feed

    private static void feedsOneThatSavesTwo() {
        String book = "coins 99; stray a is dash on 0; stray p is quote on 0; stray q is quote on 0; stray z is comma on 0;"
            + "house p; house q; feed a when day=2; feed p when day=2; feed q when hunger of q>3;";
        MarkShelter x = Check.taught(book);
        CHECK.equal("36: all would be gone", 4, x.goneAfter(10));
        CHECK.equal("39: the one whose mate stays too", 1, x.bestToFeed());
        x.feedStray(1);
        CHECK.equal("36: two would be gone", 2, x.goneAfter(10));
        CHECK.equal("39: then the dash", 0, x.bestToFeed());
        x.feedStray(0);
        CHECK.equal("36: one would be gone", 1, x.goneAfter(10));
        CHECK.equal("39: then none", -1, x.bestToFeed());
    }

    private static void feedsTheFirstOfSeveral() {
        String kept = "coins 99; stray z is comma on 0; stray a is dash on 0; stray b is dash on 0; stray c is dash on 0;"
            + "feed a when day=2; feed b when day=2; feed c when day=2;";
        MarkShelter x = Check.taught(kept);
        for (int stray = 1; stray <= 3; stray++) {
            CHECK.equal("39: the smallest number", stray, x.bestToFeed());
            x.feedStray(stray);
        }
        CHECK.equal("39: none any more", -1, x.bestToFeed());
    }

    private static void feedsWhoCanBeFed() {
        CHECK.equal("39: none is there", -1, new MarkShelter().bestToFeed());
        CHECK.equal("39: none is here", -1, Check.taught("stray a is dash on 1; feed a when day=3;").bestToFeed());
        MarkShelter x = Check.taught("coins 0; stray a is dash on 0; feed a when day=2 and coins>0;");
        CHECK.equal("39: no coin", -1, x.bestToFeed());
        x.donate(2);
        CHECK.equal("39: with coins", 0, x.bestToFeed());
        MarkShelter y = Check.taught("coins 99; stray a is quote on 0; stray s is stop on 0; stray t is dash on 2;"
            + "stray b is dash on 1; house s; offer s; feed b when day=3; feed t when day=4;");
        y.passDays(1);
        CHECK.equal("39: not the gone, adopted or coming one", 3, y.bestToFeed());
        y.feedStray(3);
        CHECK.equal("39: nor then", -1, y.bestToFeed());
        y.passDays(1);
        CHECK.equal("39: it has come", 2, y.bestToFeed());
    }

    private static void feedsForTenDays() {
        // with a meal in its day d, and one now, a dash has hunger 9 behind 9 days (d=0), 10 (d=1), 11 (d=2)
        int[] behind = {9, 10, 11};
        for (int day = 0; day <= 2; day++) {
            String book = "coins 99; stray a is dash on 0; feed a when day=" + day + ";";
            MarkShelter x = Check.taught(book);
            CHECK.equal("37: gone behind 8", 8, x.daysUntilGone(0));
            CHECK.equal("39: a meal ahead of that in day " + day, day == 2 ? 0 : -1, x.bestToFeed());
            x.feedStray(0);
            CHECK.equal("37: fed now, and in day " + day, behind[day], x.daysUntilGone(0));
        }
        MarkShelter y = Check.taught("coins 99; stray a is dash on 0; feed a when day=2 or day=5;");
        CHECK.equal("37: it is gone behind 11", 11, y.daysUntilGone(0));
        CHECK.equal("39: too late to be looked at", -1, y.bestToFeed());
        y.passDays(1);
        CHECK.equal("37: it is gone behind 10", 10, y.daysUntilGone(0));
        CHECK.equal("39: that is looked at", 0, y.bestToFeed());
    }

    private static void paysForTheMeal() {
        String book = "stray a is dash on 0; feed a when day=2;";
        CHECK.equal("39: two coins", 0, Check.taught("coins 2;" + book).bestToFeed());
        CHECK.equal("39: the meal takes the coin of the plan", -1, Check.taught("coins 1;" + book).bestToFeed());
        String two = "stray b is dash on 0; feed b when day=1 or day=3 or day=5;";
        MarkShelter x = Check.taught("coins 5;" + book + two);
        CHECK.equal("36: a would be gone", 1, x.goneAfter(10));
        CHECK.equal("39: coins for all meals", 0, x.bestToFeed());
        MarkShelter y = Check.taught("coins 4;" + book + two);
        CHECK.equal("36: a would be gone", 1, y.goneAfter(10));
        CHECK.equal("39: one is enough less", best(() -> Check.taught("coins 4;" + book + two)), y.bestToFeed());
    }

    private static void changesNothing() {
        MarkShelter x = later();
        long before = x.digest();
        int coins = x.coins();
        x.bestToFeed();
        x.adoptedAfter(30);
        x.goneAfter(30);
        x.daysUntilGone(4);
        x.daysUntilAdopted(4);
        x.meanHunger();
        CHECK.equal("35 to 40: nothing is changed", before, x.digest());
        CHECK.equal("39: no coin is paid", coins, x.coins());
        CHECK.equal("9: no day goes by", 3, x.day());
    }

    // ---- numbers of all

    private static void meansOfAllThatAreHere() {
        CHECK.equal("40: none at all", 0.0, new MarkShelter().meanHunger());
        MarkShelter x = Check.taught("coins 99; stray t is dash on 3; stray a is dash on 0; stray g is quote on 0;"
            + "stray s is stop on 0;");
        CHECK.equal("40: three", 4.0, x.meanHunger());
        x.house(3);
        x.offer(3);
        x.feedStray(1);
        CHECK.equal("40: 1 and 4", 2.5, x.meanHunger());
        x.passDays(1);
        CHECK.equal("40: 2", 2.0, x.meanHunger());
        x.feedStray(1);
        CHECK.equal("40: 0", 0.0, x.meanHunger());
        x.passDays(2);
        CHECK.equal("40: 2 and 4", 3.0, x.meanHunger());
        MarkShelter none = Check.taught("stray t is dash on 3;");
        CHECK.equal("40: one to come", 0.0, none.meanHunger());
        MarkShelter y = Check.taught("coins 99; stray a is stop on 0; stray b is stop on 0; stray c is stop on 0;"
            + "stray d is stop on 0; stray e is stop on 0; stray f is stop on 0; stray g is stop on 0;");
        y.train(0);
        CHECK.equal("40: 29 of seven", 29.0 / 7.0, y.meanHunger());
        y.feedStray(1);
        CHECK.equal("40: 26 of seven", 26.0 / 7.0, y.meanHunger());
    }

    private static void digestIs(MarkShelter x, long... numbers) {
        long d = 1031;
        for (long number : numbers) {
            d = d * 31 + number;
        }
        CHECK.equal("41: digest of " + Arrays.toString(numbers), d, x.digest());
        CHECK.equal("41: once more", d, x.digest());
    }

    private static void digestsItsNumbers() {
        digestIs(new MarkShelter(), 0, 3, 20, 0, 0, 0, 0, 0, 6, -1, 0, 0, 0);
        digestIs(Check.taught("houses 1; coins 0;"), 0, 1, 0, 0, 0, 0, 0, 0, 2, -1, 0);
        digestIs(Check.taught("houses 1; stray a is comma on 30;"), 1, 1, 20, 0, 0, 0, 0, 0, 2, -1,
            0, 30, 0, 0, 0, -1, -1, -1, 0, 0, 0);
        MarkShelter x = Check.taught("houses 2; coins 9; stray a is dash on 0; stray p is quote on 0; stray q is quote on 0;"
            + "stray g is quote on 0; stray s is stop on 0; stray t is comma on 7; feed a when day=1 or day=4; train a;");
        x.house(4);
        x.offer(4);
        x.house(1);
        x.house(2);
        x.passDays(1);
        x.house(0);
        digestIs(x, 6, 2, 14, 1, 1, 3, 1, 1, 1, -1,
            1, 0, 1, 0, 0, 6, 7, 1, 0, 0,
            3, 0, 1, 0, 0, 5, 6, 0, 1, 0,
            3, 0, 1, 0, 0, 5, 6, 0, 1, 0,
            3, 0, 0, 0, 1, -1, -1, -1, 0, 0,
            2, 0, 0, 1, 0, -1, -1, -1, 0, 0,
            0, 7, 0, 0, 0, -1, -1, -1, 0, 0,
            2, 1);
        MarkShelter y = Check.taught("houses 1; stray a is stop on 0; stray b is dash on 0; feed b when day=2;");
        y.house(0);
        digestIs(y, 2, 1, 20, 0, 0, 2, 0, 0, 1, 1,
            2, 0, 1, 0, 0, 4, 2, 0, 0, 1,
            1, 0, 1, 0, 0, 4, 8, -1, 0, 0,
            1);
    }
}
