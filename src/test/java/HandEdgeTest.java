/** The edges of what can be done with a stray: hunger and wildness, coins, houses, pairs, and who is ready. */
public final class HandEdgeTest {
    private static final Check CHECK = new Check();
    private static final String[] KINDS = {"comma", "dash", "stop", "quote"};

    public static void main(String[] args) {
        beginsWithItsNumbers();
        feedsEachHunger();
        trainsEachHunger();
        trainsTheLastWildness();
        paysTheLastCoin();
        fillsAllHouses();
        pairsAllQuotes();
        choosesAHouseForAQuote();
        choosesAHouseForOthers();
        freesPlaces();
        pairsInOneHouseOnly();
        readiesAComma();
        readiesADash();
        readiesAStop();
        readiesQuotes();
        adoptsOneOfAHouse();
        adoptsAPair();
        givesCoins();
        findsTheHungriestThatIsHere();
        CHECK.end();
    }

    /** A stray of this kind with this hunger, in no house. */
    private static MarkShelter hungry(String kind, int hunger) {
        MarkShelter x = Check.taught("coins 50; stray a is " + kind + " on 0;");
        for (int i = 0; i < 2 && hunger < 4; i++) {
            x.feedStray(0);
        }
        while (x.hungerOf(0) < hunger) {
            x.train(0);
        }
        return x;
    }

    private static void beginsWithItsNumbers() {
        int[] wildness = {3, 8, 2, 6};
        for (int kind = 0; kind < 4; kind++) {
            for (int day = 0; day < 3; day++) {
                MarkShelter x = Check.taught("stray a is " + KINDS[kind] + " on " + day + ";");
                for (int i = 0; i < day; i++) {
                    CHECK.equal(KINDS[kind] + " is to come", false, x.isHere(0));
                    CHECK.equal("nobody is here", 0, x.here());
                    x.passDays(1);
                }
                CHECK.equal(KINDS[kind] + " is here", true, x.isHere(0));
                CHECK.equal("hunger of a " + KINDS[kind], 4, x.hungerOf(0));
                CHECK.equal("wildness of a " + KINDS[kind], wildness[kind], x.wildnessOf(0));
                CHECK.equal("house of a " + KINDS[kind], false, x.isHoused(0));
                CHECK.equal("kind of a " + KINDS[kind], kind, x.kindOf(0));
                CHECK.equal("day of a " + KINDS[kind], day, x.dayOf(0));
            }
        }
    }

    private static void feedsEachHunger() {
        int[] then = {0, 0, 0, 0, 1, 2, 3, 4, 5, 6};
        for (int hunger = 0; hunger <= 9; hunger++) {
            MarkShelter x = hungry("dash", hunger);
            CHECK.equal("hunger", hunger, x.hungerOf(0));
            int coins = x.coins();
            int wildness = x.wildnessOf(0);
            CHECK.equal("28: feedStray with hunger " + hunger, then[hunger], x.feedStray(0));
            CHECK.equal("28: hunger then", then[hunger], x.hungerOf(0));
            CHECK.equal("28: it costs 1 coin", coins - 1, x.coins());
            CHECK.equal("28: wildness stays", wildness, x.wildnessOf(0));
        }
    }

    private static void trainsEachHunger() {
        int[] less = {2, 2, 2, 2, 2, 2, 1, 1, 1, 1};
        for (String kind : KINDS) {
            for (int hunger = 0; hunger <= 9; hunger++) {
                MarkShelter x = hungry(kind, hunger);
                int coins = x.coins();
                int wildness = Math.max(0, x.wildnessOf(0) - less[hunger]);
                CHECK.equal("29: train " + kind + " with hunger " + hunger, wildness, x.train(0));
                CHECK.equal("29: wildness then", wildness, x.wildnessOf(0));
                CHECK.equal("29: hunger then", Math.min(9, hunger + 1), x.hungerOf(0));
                CHECK.equal("29: it costs no coin", coins, x.coins());
            }
        }
    }

    private static void trainsTheLastWildness() {
        MarkShelter x = Check.taught("coins 50; stray a is comma on 0;");
        CHECK.equal("29: from 3 by 2", 1, x.train(0));
        CHECK.equal("29: from 1 by 2", 0, x.train(0));
        x.feedStray(0);
        CHECK.equal("29: from 0 by 2", 0, x.train(0));
        MarkShelter y = Check.taught("coins 50; stray a is comma on 0;");
        y.passDays(1);
        CHECK.equal("29: from 3 by 1", 2, y.train(0));
        CHECK.equal("29: from 2 by 1", 1, y.train(0));
        CHECK.equal("29: from 1 by 1", 0, y.train(0));
        CHECK.equal("29: hunger 9", 9, y.hungerOf(0));
        CHECK.equal("29: from 0 by 1", 0, y.train(0));
        MarkShelter z = Check.taught("stray a is stop on 0;");
        CHECK.equal("29: from 2 by 2", 0, z.train(0));
    }

    private static void paysTheLastCoin() {
        MarkShelter x = Check.taught("coins 1; stray a is stop on 0; stray b is dash on 0;");
        CHECK.equal("28: the last coin", 1, x.feedStray(0));
        CHECK.equal("28: none is left", 0, x.coins());
        CHECK.notNow("28: no coin", () -> x.feedStray(1));
        CHECK.equal("29: training needs none", 6, x.train(1));
        CHECK.equal("30: housing needs none", 0, x.house(0));
        CHECK.equal("32: offering needs none", 1, x.offer(0));
        CHECK.equal("32: and brings five", 5, x.coins());
        CHECK.equal("28: with them", 2, x.feedStray(1));
        MarkShelter y = Check.taught("coins 0; stray a is stop on 0;");
        CHECK.notNow("28: no coin at first", () -> y.feedStray(0));
        y.donate(1);
        CHECK.equal("28: a coin was given", 1, y.feedStray(0));
        CHECK.notNow("28: and is paid", () -> y.feedStray(0));
    }

    private static String strays(int count, String kind) {
        StringBuilder text = new StringBuilder();
        for (int i = 0; i < count; i++) {
            text.append("stray s").append(i).append(" is ").append(kind).append(" on 0;");
        }
        return text.toString();
    }

    private static void fillsAllHouses() {
        for (String kind : new String[] {"comma", "dash", "stop"}) {
            for (int houses = 1; houses <= 6; houses++) {
                MarkShelter x = Check.taught("houses " + houses + ";" + strays(12, kind));
                for (int i = 0; i < 2 * houses; i++) {
                    CHECK.equal("14: room", 2 * houses - i, x.room());
                    CHECK.equal("27: straysIn", i % 2, x.straysIn(i / 2));
                    CHECK.equal("30: house " + i, i / 2, x.house(i));
                    CHECK.equal("27: straysIn", i % 2 + 1, x.straysIn(i / 2));
                }
                CHECK.equal("14: no room", 0, x.room());
                if (houses < 6) {
                    int next = 2 * houses;
                    CHECK.notNow("30: no house with room of " + houses, () -> x.house(next));
                    x.free(next - 1);
                    CHECK.equal("30: the place that was freed", houses - 1, x.house(next));
                }
            }
        }
    }

    private static void pairsAllQuotes() {
        MarkShelter x = Check.taught("houses 6;" + strays(12, "quote"));
        for (int i = 0; i < 12; i++) {
            CHECK.equal("30: quote " + i, i / 2, x.house(i));
            CHECK.equal("24: paired", i % 2 == 1, x.isPaired(i));
        }
        for (int i : new int[] {2, 5, 6, 11}) {
            x.free(i);
            CHECK.equal("24: the other of " + i, false, x.isPaired(i ^ 1));
        }
        CHECK.equal("30: the first quote that is alone", 1, x.house(11));
        CHECK.equal("30: the second", 2, x.house(2));
        CHECK.equal("30: the third", 3, x.house(5));
        CHECK.equal("30: the last", 5, x.house(6));
        CHECK.equal("14: no room", 0, x.room());
        CHECK.equal("24: all are paired", true, x.isPaired(6) && x.isPaired(10));
    }

    /** Strays 0 to 3 are quotes, 4 and 5 commas, 6 is a dash. */
    private static MarkShelter mixed(int houses) {
        return Check.taught("houses " + houses + ";" + strays(4, "quote")
            + "stray a is comma on 0; stray b is comma on 0; stray d is dash on 0;");
    }

    private static void choosesAHouseForAQuote() {
        MarkShelter x = mixed(3);
        CHECK.equal("30: a quote, all is empty", 0, x.house(0));
        CHECK.equal("30: beside it a comma", 0, x.house(4));
        CHECK.equal("30: a full house is none of one quote", 1, x.house(1));
        x.free(0);
        CHECK.equal("30: a comma alone is no quote alone", 1, x.house(0));
        CHECK.equal("30: two quotes are not one, a comma has room", 0, x.house(2));
        CHECK.equal("30: the last house", 2, x.house(3));
        MarkShelter y = mixed(3);
        y.house(4);
        y.house(5);
        y.free(4);
        CHECK.equal("30: beside a comma, ahead of an empty house", 0, y.house(0));
        y.free(0);
        y.house(6);
        y.house(0);
        y.free(6);
        CHECK.equal("30: a quote behind a house with room", 1, y.house(1));
        y.free(1);
        y.free(5);
        CHECK.equal("30: a quote behind an empty house", 1, y.house(1));
    }

    private static void choosesAHouseForOthers() {
        for (int stray = 4; stray <= 6; stray++) {
            MarkShelter x = mixed(2);
            x.house(0);
            CHECK.equal("30: beside a quote", 0, x.house(stray));
            CHECK.equal("24: that pairs none", false, x.isPaired(0) || x.isPaired(stray));
            x.free(0);
            x.free(stray);
            x.house(0);
            x.house(1);
            CHECK.equal("30: behind a pair", 1, x.house(stray));
            x.free(0);
            x.free(stray);
            CHECK.equal("30: ahead of an empty house", 0, x.house(stray));
        }
    }

    private static void freesPlaces() {
        MarkShelter x = mixed(2);
        for (int i = 0; i < 4; i++) {
            x.house(i);
        }
        for (int i = 3; i >= 0; i--) {
            CHECK.equal("31: free " + i, i / 2, x.free(i));
            CHECK.equal("22: it is in none", false, x.isHoused(i));
            CHECK.equal("17: it is here", true, x.isHere(i));
            CHECK.equal("14: room", 4 - i, x.room());
            CHECK.equal("27: straysIn", i % 2, x.straysIn(i / 2));
        }
    }

    private static void pairsInOneHouseOnly() {
        MarkShelter x = mixed(3);
        CHECK.equal("24: in no house", false, x.isPaired(0));
        x.house(0);
        CHECK.equal("24: alone in a house", false, x.isPaired(0));
        CHECK.equal("24: the other one in none", false, x.isPaired(1));
        x.house(1);
        CHECK.equal("24: two in one", true, x.isPaired(0) && x.isPaired(1));
        CHECK.equal("24: one in no house", false, x.isPaired(2));
        x.house(2);
        CHECK.equal("24: one in another house", false, x.isPaired(2));
        x.house(4);
        CHECK.equal("24: one with a comma", false, x.isPaired(2) || x.isPaired(4));
        x.house(5);
        x.house(6);
        CHECK.equal("24: no quotes", false, x.isPaired(5) || x.isPaired(6));
    }

    // ---- who is ready

    private static void numbers(MarkShelter x, int stray, int wildness, int hunger, boolean ready) {
        String what = "25: wildness " + wildness + " and hunger " + hunger;
        CHECK.equal(what + ", hunger", hunger, x.hungerOf(stray));
        CHECK.equal(what + ", wildness", wildness, x.wildnessOf(stray));
        CHECK.equal(what, ready, x.isReady(stray));
    }

    private static void readiesAComma() {
        MarkShelter x = Check.taught("stray a is comma on 0;");
        numbers(x, 0, 3, 4, false);
        x.passDays(1);
        numbers(x, 0, 3, 6, false);
        x.feedStray(0);
        x.passDays(1);
        numbers(x, 0, 3, 5, false);
        x.passDays(1);
        x.train(0);
        numbers(x, 0, 2, 8, false);
        x.feedStray(0);
        numbers(x, 0, 2, 5, true);
        x.house(0);
        CHECK.equal("25: in a house too", true, x.isReady(0));
        x.train(0);
        numbers(x, 0, 0, 6, false);
        x.feedStray(0);
        numbers(x, 0, 0, 3, true);
        x.feedStray(0);
        numbers(x, 0, 0, 0, true);
    }

    private static void readiesADash() {
        MarkShelter x = Check.taught("stray a is dash on 0;");
        x.train(0);
        x.train(0);
        numbers(x, 0, 4, 6, false);
        x.train(0);
        numbers(x, 0, 3, 7, false);
        x.feedStray(0);
        numbers(x, 0, 3, 4, false);
        x.feedStray(0);
        x.train(0);
        numbers(x, 0, 1, 2, true);
        x.passDays(1);
        numbers(x, 0, 2, 3, true);
        x.passDays(1);
        numbers(x, 0, 3, 4, false);
    }

    private static void readiesAStop() {
        MarkShelter x = Check.taught("stray a is stop on 0; stray b is stop on 0;");
        numbers(x, 0, 2, 4, false);
        x.house(0);
        numbers(x, 0, 2, 4, true);
        x.passDays(1);
        numbers(x, 0, 2, 5, true);
        x.free(0);
        numbers(x, 0, 2, 5, false);
        x.house(0);
        x.house(1);
        numbers(x, 1, 3, 5, false);
        x.passDays(1);
        numbers(x, 0, 2, 6, false);
        x.feedStray(0);
        numbers(x, 0, 2, 3, true);
    }

    /** Two quotes that stay alone, with wildness 2 and hunger 3. */
    private static MarkShelter tameQuotes() {
        MarkShelter x = Check.taught("coins 99; stray a is quote on 0; stray b is quote on 0; stray c is comma on 0;");
        for (int i = 0; i < 2; i++) {
            x.train(i);
            x.train(i);
            x.feedStray(i);
        }
        return x;
    }

    private static void readiesQuotes() {
        MarkShelter x = tameQuotes();
        numbers(x, 0, 2, 3, false);
        x.house(0);
        numbers(x, 0, 2, 3, false);
        x.house(2);
        numbers(x, 0, 2, 3, false);
        x.free(2);
        x.house(1);
        numbers(x, 0, 2, 3, true);
        numbers(x, 1, 2, 3, true);
        x.passDays(2);
        numbers(x, 1, 2, 5, true);
        x.feedStray(0);
        x.passDays(1);
        numbers(x, 0, 2, 3, false);
        numbers(x, 1, 2, 6, false);
        x.feedStray(1);
        numbers(x, 0, 2, 3, true);
        x.free(1);
        numbers(x, 0, 2, 3, false);
        numbers(x, 1, 2, 3, false);
        MarkShelter y = Check.taught("coins 99; stray a is quote on 0; stray b is quote on 0; house a; house b;"
            + "train a when day=0; train b when day=0;");
        y.passDays(2);
        y.train(0);
        y.feedStray(0);
        y.feedStray(1);
        numbers(y, 0, 3, 5, false);
        y.train(1);
        numbers(y, 1, 2, 5, false);
        y.train(0);
        y.feedStray(0);
        numbers(y, 0, 1, 3, true);
        numbers(y, 1, 2, 5, true);
    }

    // ---- who is adopted

    private static void adoptsOneOfAHouse() {
        MarkShelter x = Check.taught("houses 1; coins 0; stray a is stop on 0; stray b is stop on 0; stray c is stop on 0;");
        x.house(0);
        x.house(1);
        CHECK.equal("32: only itself", 1, x.offer(0));
        CHECK.equal("32: the other one is here", true, x.isHere(1));
        CHECK.equal("32: and in its house", 0, x.houseOf(1));
        CHECK.equal("32: five coins", 5, x.coins());
        CHECK.equal("14: one place", 1, x.room());
        CHECK.equal("30: for the next", 0, x.house(2));
        CHECK.equal("12: adopted", 1, x.adopted());
        CHECK.equal("11: here", 2, x.here());
        CHECK.equal("32: one more", 1, x.offer(2));
        CHECK.equal("32: and the last", 1, x.offer(1));
        CHECK.equal("12: adopted", 3, x.adopted());
        CHECK.equal("13: none is gone by that", 0, x.gone());
        CHECK.equal("8: coins", 15, x.coins());
    }

    private static void adoptsAPair() {
        for (int offered = 0; offered < 2; offered++) {
            MarkShelter x = tameQuotes();
            x.house(2);
            x.free(2);
            x.house(0);
            x.house(1);
            int coins = x.coins();
            CHECK.equal("32: both", 2, x.offer(offered));
            CHECK.equal("32: ten coins", coins + 10, x.coins());
            CHECK.equal("12: adopted", 2, x.adopted());
            CHECK.equal("11: here", 1, x.here());
            CHECK.equal("14: room", 6, x.room());
            for (int i = 0; i < 2; i++) {
                int stray = i;
                CHECK.equal("18: isAdopted", true, x.isAdopted(i));
                CHECK.equal("22: isHoused", false, x.isHoused(i));
                CHECK.equal("24: isPaired", false, x.isPaired(i));
                CHECK.equal("25: isReady", false, x.isReady(i));
                CHECK.notNow("32: once more", () -> x.offer(stray));
            }
        }
    }

    private static void givesCoins() {
        MarkShelter x = Check.taught("coins 99;");
        int coins = 99;
        for (int i = 1; i <= 99; i++) {
            coins += i;
            CHECK.equal("33: donate " + i, coins, x.donate(i));
        }
        CHECK.equal("8: coins are not limited", coins, x.coins());
    }

    private static void findsTheHungriestThatIsHere() {
        MarkShelter x = Check.taught("stray z is dash on 5; stray a is stop on 0; stray b is dash on 0; stray c is dash on 0;");
        x.house(1);
        x.train(1);
        CHECK.equal("26: hunger 5", 1, x.hungriest());
        x.offer(1);
        CHECK.equal("26: it was adopted", 2, x.hungriest());
        x.train(3);
        CHECK.equal("26: the last", 3, x.hungriest());
        x.passDays(4);
        CHECK.equal("26: it is gone", 2, x.hungriest());
        x.passDays(1);
        CHECK.equal("26: the one that came", 0, x.hungriest());
        CHECK.equal("26: with hunger 4", 4, x.hungerOf(0));
    }
}
