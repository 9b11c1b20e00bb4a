/** Promises 34 to 41: days, and what would be. */
public final class DaysTest {
    private static final Check CHECK = new Check();
    private static final String STOPS = "stray a is stop on 0; stray b is stop on 3; stray c is comma on 0;"
        + "house a; house b; offer a when day=1; offer b;";

    public static void main(String[] args) {
        passesDays();
        looksAhead();
        tellsWhenTheyAreGone();
        tellsWhenTheyAreAdopted();
        findsWhomToFeed();
        tellsTheMeanHunger();
        digests();
        CHECK.end();
    }

    private static void passesDays() {
        MarkShelter x = Check.taught(STOPS);
        for (int wrong : new int[] {0, 31, -1, Integer.MIN_VALUE, Integer.MAX_VALUE}) {
            CHECK.badArgument("34: passDays " + wrong, () -> x.passDays(wrong));
        }
        CHECK.equal("34: no day went by", 0, x.day());
        CHECK.equal("34: passDays(1)", 0, x.passDays(1));
        CHECK.equal("34: passDays(2)", 1, x.passDays(2));
        CHECK.equal("34: only those adopted in them", 1, x.passDays(30));
        CHECK.equal("34: day", 33, x.day());
        CHECK.equal("34: adopted", 2, x.adopted());
    }

    private static void looksAhead() {
        MarkShelter x = Check.taught(STOPS);
        long before = x.digest();
        for (int wrong : new int[] {0, 31, -1, Integer.MIN_VALUE, Integer.MAX_VALUE}) {
            CHECK.badArgument("35: adoptedAfter " + wrong, () -> x.adoptedAfter(wrong));
            CHECK.badArgument("36: goneAfter " + wrong, () -> x.goneAfter(wrong));
        }
        int[] adopted = {0, 1, 1, 2, 2};
        int[] gone = {0, 0, 1, 1, 1};
        for (int i = 0; i < 5; i++) {
            CHECK.equal("35: adoptedAfter " + (i + 1), adopted[i], x.adoptedAfter(i + 1));
            CHECK.equal("36: goneAfter " + (i + 1), gone[i], x.goneAfter(i + 1));
        }
        CHECK.equal("35: adoptedAfter(30)", 2, x.adoptedAfter(30));
        CHECK.equal("36: goneAfter(30)", 1, x.goneAfter(30));
        CHECK.equal("35, 36: nothing is changed", before, x.digest());
        x.passDays(3);
        CHECK.equal("35: those adopted ahead count too", 2, x.adoptedAfter(1));
        CHECK.equal("36: those gone ahead count too", 1, x.goneAfter(1));
    }

    private static void tellsWhenTheyAreGone() {
        MarkShelter x = Check.taught("coins 99; stray a is comma on 0; stray b is comma on 30; stray c is dash on 0;"
            + "stray d is quote on 0; stray e is comma on 0; feed e when day>0; feed c when day < 30;");
        long before = x.digest();
        CHECK.equal("37: a comma", 3, x.daysUntilGone(0));
        CHECK.equal("37: one to come", 33, x.daysUntilGone(1));
        CHECK.equal("37: one that is fed till day 30", 38, x.daysUntilGone(2));
        CHECK.equal("37: a quote", 1, x.daysUntilGone(3));
        CHECK.equal("37: one that is always fed", -1, x.daysUntilGone(4));
        CHECK.equal("37: nothing is changed", before, x.digest());
        x.passDays(1);
        CHECK.equal("37: gone now", 0, x.daysUntilGone(3));
        CHECK.equal("37: a day later", 2, x.daysUntilGone(0));
        for (int wrong : new int[] {-1, 5, Integer.MIN_VALUE, Integer.MAX_VALUE}) {
            CHECK.noStray("37: daysUntilGone " + wrong, () -> x.daysUntilGone(wrong));
        }
        MarkShelter y = Check.taught("coins 99; stray a is stop on 0; feed a when day<N;".replace("N", "32"));
        CHECK.equal("37: behind 40 days", 40, y.daysUntilGone(0));
        MarkShelter z = Check.taught("coins 99; stray a is stop on 0; feed a when day<N;".replace("N", "33"));
        CHECK.equal("37: behind 41 days", -1, z.daysUntilGone(0));
    }

    private static void tellsWhenTheyAreAdopted() {
        MarkShelter x = Check.taught("coins 99; stray a is stop on 0; stray b is stop on 30; stray c is comma on 0;"
            + "house a; house b; offer a; offer b when day=39; feed b when hunger of b > 4;");
        long before = x.digest();
        CHECK.equal("38: a stop", 1, x.daysUntilAdopted(0));
        CHECK.equal("38: behind 40 days", 40, x.daysUntilAdopted(1));
        CHECK.equal("38: never", -1, x.daysUntilAdopted(2));
        CHECK.equal("38: nothing is changed", before, x.digest());
        x.passDays(1);
        CHECK.equal("38: adopted now", 0, x.daysUntilAdopted(0));
        CHECK.equal("37: an adopted one is never gone", -1, x.daysUntilGone(0));
        CHECK.equal("38: behind 39 days", 39, x.daysUntilAdopted(1));
        x.passDays(2);
        CHECK.equal("38: a gone one is never adopted", -1, x.daysUntilAdopted(2));
        for (int wrong : new int[] {-1, 3, Integer.MIN_VALUE, Integer.MAX_VALUE}) {
            CHECK.noStray("38: daysUntilAdopted " + wrong, () -> x.daysUntilAdopted(wrong));
        }
        MarkShelter y = Check.taught("coins 99; stray b is stop on 30; house b; offer b when day=40;"
            + "feed b when hunger of b > 4;");
        CHECK.equal("38: behind 41 days", -1, y.daysUntilAdopted(0));
    }

    private static void findsWhomToFeed() {
        CHECK.equal("39: without strays", -1, new MarkShelter().bestToFeed());
        MarkShelter x = Check.taught("coins 5; stray a is comma on 0;");
        CHECK.equal("39: none fewer would be gone", -1, x.bestToFeed());
        MarkShelter w = Check.taught("coins 3; stray a is comma on 0; stray b is dash on 3; stray c is dash on 3;");
        w.passDays(3);
        w.feedStray(1);
        CHECK.equal("39: gone behind 8", 8, w.daysUntilGone(1));
        CHECK.equal("39: gone behind 5", 5, w.daysUntilGone(2));
        w.feedStray(1);
        CHECK.equal("39: gone behind 9", 9, w.daysUntilGone(1));
        CHECK.equal("39: a meal keeps nobody for 10 days", -1, w.bestToFeed());
        // a stop that is fed is still fit in day 2, and is adopted
        MarkShelter v = Check.taught("coins 2; stray a is comma on 0; stray b is stop on 0; stray c is stop on 0;"
            + "house b; house c; offer b when day>1; offer c when day>1;");
        CHECK.equal("39: both would be gone", 3, v.goneAfter(10));
        CHECK.equal("39: the first of two", 1, v.bestToFeed());
        v.feedStray(1);
        CHECK.equal("39: the other one", 2, v.bestToFeed());
        v.feedStray(2);
        CHECK.equal("39: no coin", -1, v.bestToFeed());
        MarkShelter u = Check.taught("coins 9; stray a is dash on 0; feed a when day=1;");
        CHECK.equal("39: fed now it is gone behind 10 days", -1, u.bestToFeed());
        MarkShelter t = Check.taught("coins 9; stray a is dash on 0; feed a when day=2;");
        CHECK.equal("39: fed now it is gone behind 11 days", 0, t.bestToFeed());
        t.feedStray(0);
        CHECK.equal("37: gone behind 11 days", 11, t.daysUntilGone(0));
        CHECK.equal("39: adopted", 2, v.adoptedAfter(10));
    }

    private static void tellsTheMeanHunger() {
        MarkShelter x = Check.taught("stray a is comma on 0; stray b is dash on 0; stray c is stop on 0;"
            + "stray d is comma on 9;");
        CHECK.equal("40: three with 4", 4.0, x.meanHunger());
        x.feedStray(0);
        CHECK.equal("40: 1, 4 and 4", 3.0, x.meanHunger());
        x.train(1);
        CHECK.equal("40: 1, 5 and 4", 10.0 / 3.0, x.meanHunger());
        x.passDays(5);
        CHECK.equal("40: none is here", 0.0, x.meanHunger());
        CHECK.equal("40: without strays", 0.0, new MarkShelter().meanHunger());
    }

    private static long digestOf(MarkShelter x) {
        long d = 1031;
        long[] first = {x.strays(), x.houses(), x.coins(), x.day(), x.ordersCarriedOut(), x.here(), x.adopted(),
            x.gone(), x.room(), x.bestToFeed()};
        for (long number : first) {
            d = d * 31 + number;
        }
        for (int i = 0; i < x.strays(); i++) {
            long[] numbers = {x.kindOf(i), x.dayOf(i), x.isHere(i) ? 1 : 0, x.isAdopted(i) ? 1 : 0,
                x.isGone(i) ? 1 : 0, x.isHere(i) ? x.hungerOf(i) : -1, x.isHere(i) ? x.wildnessOf(i) : -1,
                x.isHoused(i) ? x.houseOf(i) : -1, x.isPaired(i) ? 1 : 0, x.isReady(i) ? 1 : 0};
            for (long number : numbers) {
                d = d * 31 + number;
            }
        }
        for (int i = 0; i < x.houses(); i++) {
            d = d * 31 + x.straysIn(i);
        }
        return d;
    }

    private static void digests() {
        CHECK.equal("41: a new object", digestOf(new MarkShelter()), new MarkShelter().digest());
        for (int i = 0; i < 10; i++) {
            MarkShelter x = Check.taught("houses 4; coins 9;" + STOPS + "stray d is quote on 0;"
                + "stray e is quote on 1; stray f is comma on 7; house d; train d; train d; house e; feed f;");
            if (i > 0) {
                x.passDays(i);
            }
            CHECK.equal("41: digest in day " + i, digestOf(x), x.digest());
            CHECK.equal("41: nothing is changed", digestOf(x), x.digest());
        }
    }
}
