/** Promises 28 to 33: what is done by hand. */
public final class HandTest {
    private static final Check CHECK = new Check();

    public static void main(String[] args) {
        refusesOtherStrays();
        refusesThoseWhoAreNotHere();
        feeds();
        trains();
        houses();
        frees();
        offers();
        donates();
        CHECK.end();
    }

    private static void refusesOtherStrays() {
        MarkShelter x = Check.taught("coins 0; stray a is comma on 0; stray b is comma on 0;");
        long before = x.digest();
        for (int wrong : new int[] {-1, 2, 12, Integer.MIN_VALUE, Integer.MAX_VALUE}) {
            CHECK.noStray("28: feedStray " + wrong, () -> x.feedStray(wrong));
            CHECK.noStray("29: train " + wrong, () -> x.train(wrong));
            CHECK.noStray("30: house " + wrong, () -> x.house(wrong));
            CHECK.noStray("31: free " + wrong, () -> x.free(wrong));
            CHECK.noStray("32: offer " + wrong, () -> x.offer(wrong));
        }
        CHECK.equal("28 to 32: nothing is changed", before, x.digest());
    }

    private static void refusesThoseWhoAreNotHere() {
        MarkShelter x = Check.taught("stray a is quote on 0; stray b is stop on 5;");
        x.passDays(1);
        long before = x.digest();
        for (int i = 0; i < 2; i++) {
            int stray = i;
            CHECK.notNow("28: feedStray " + i, () -> x.feedStray(stray));
            CHECK.notNow("29: train " + i, () -> x.train(stray));
            CHECK.notNow("30: house " + i, () -> x.house(stray));
            CHECK.notNow("31: free " + i, () -> x.free(stray));
            CHECK.notNow("32: offer " + i, () -> x.offer(stray));
        }
        CHECK.equal("28 to 32: nothing is changed", before, x.digest());
    }

    private static void feeds() {
        MarkShelter x = Check.taught("coins 3; stray a is comma on 0;");
        CHECK.equal("28: 3 less", 1, x.feedStray(0));
        CHECK.equal("28: at least 0", 0, x.feedStray(0));
        CHECK.equal("28: feedStray", 0, x.feedStray(0));
        CHECK.equal("28: coins", 0, x.coins());
        CHECK.notNow("28: no coin", () -> x.feedStray(0));
        CHECK.equal("28: coins stay", 0, x.coins());
        CHECK.equal("28: hunger stays", 0, x.hungerOf(0));
    }

    private static void trains() {
        MarkShelter x = Check.taught("stray a is dash on 0; stray b is comma on 0;");
        CHECK.equal("29: 2 less with hunger 4", 6, x.train(0));
        CHECK.equal("29: 2 less with hunger 5", 4, x.train(0));
        CHECK.equal("29: 1 less with hunger 6", 3, x.train(0));
        CHECK.equal("29: hunger is 1 more", 7, x.hungerOf(0));
        CHECK.equal("29: train", 2, x.train(0));
        CHECK.equal("29: train", 1, x.train(0));
        CHECK.equal("29: hunger 9", 9, x.hungerOf(0));
        CHECK.equal("29: train", 0, x.train(0));
        CHECK.equal("29: at least 0", 0, x.train(0));
        CHECK.equal("29: hunger is at most 9", 9, x.hungerOf(0));
        CHECK.equal("29: train", 1, x.train(1));
        CHECK.equal("29: 2 less, at least 0", 0, x.train(1));
    }

    private static void houses() {
        MarkShelter x = Check.taught("houses 3; stray a is comma on 0; stray b is quote on 0; stray c is dash on 0;"
            + "stray d is quote on 0; stray e is stop on 0; stray f is quote on 0; stray g is quote on 0;");
        CHECK.equal("30: the first house", 0, x.house(0));
        CHECK.notNow("30: it is in one", () -> x.house(0));
        CHECK.equal("30: a quote with a comma, as there is no quote", 0, x.house(1));
        CHECK.equal("30: the next house", 1, x.house(3));
        CHECK.equal("30: a quote to a quote", 1, x.house(5));
        CHECK.equal("30: a quote, no quote alone", 2, x.house(6));
        x.free(0);
        x.free(5);
        CHECK.equal("30: to the first quote that is alone", 0, x.house(5));
        x.free(1);
        x.free(5);
        CHECK.equal("30: to the first house of just one quote", 1, x.house(1));
        CHECK.equal("30: a stop to the first with room", 0, x.house(4));
        CHECK.equal("30: a dash too", 0, x.house(2));
        CHECK.equal("30: a comma beside a quote", 2, x.house(0));
        CHECK.equal("30: no room", 0, x.room());
        CHECK.notNow("30: no room is left", () -> x.house(5));
        x.free(4);
        CHECK.equal("30: a quote beside a dash", 0, x.house(5));
    }

    private static void frees() {
        MarkShelter x = Check.taught("stray a is comma on 0; stray b is comma on 0; stray c is comma on 0;");
        CHECK.notNow("31: in no house", () -> x.free(0));
        x.house(0);
        x.house(1);
        x.house(2);
        CHECK.equal("31: the house where it was", 1, x.free(2));
        CHECK.equal("31: the house where it was", 0, x.free(0));
        CHECK.equal("31: it is in none", false, x.isHoused(0));
        CHECK.equal("31: the other one stays", 0, x.houseOf(1));
        CHECK.notNow("31: again", () -> x.free(0));
    }

    private static void offers() {
        MarkShelter x = Check.taught("coins 10; stray a is comma on 0; stray b is quote on 0; stray c is quote on 0;"
            + "stray d is stop on 0;");
        CHECK.notNow("32: not ready", () -> x.offer(0));
        CHECK.notNow("32: not ready", () -> x.offer(3));
        x.train(0);
        x.house(0);
        CHECK.equal("32: one", 1, x.offer(0));
        CHECK.equal("32: 5 coins", 15, x.coins());
        CHECK.equal("32: adopted", true, x.isAdopted(0));
        CHECK.equal("32: its place is free", 6, x.room());
        CHECK.notNow("32: again", () -> x.offer(0));
        for (int i = 1; i <= 2; i++) {
            x.feedStray(i);
            x.train(i);
            x.train(i);
            x.house(i);
        }
        CHECK.equal("32: coins", 13, x.coins());
        CHECK.equal("32: two", 2, x.offer(2));
        CHECK.equal("32: 10 coins", 23, x.coins());
        CHECK.equal("32: b is adopted", true, x.isAdopted(1));
        CHECK.equal("32: c is adopted", true, x.isAdopted(2));
        CHECK.equal("32: both places are free", 6, x.room());
        x.house(3);
        CHECK.equal("32: a stop", 1, x.offer(3));
        CHECK.equal("32: none is here", 0, x.here());
        CHECK.equal("32: none is an order", 0, x.ordersCarriedOut());
    }

    private static void donates() {
        MarkShelter x = new MarkShelter();
        CHECK.equal("33: donate(1)", 21, x.donate(1));
        CHECK.equal("33: donate(99)", 120, x.donate(99));
        for (int wrong : new int[] {0, 100, -1, Integer.MIN_VALUE, Integer.MAX_VALUE}) {
            CHECK.badArgument("33: donate " + wrong, () -> x.donate(wrong));
        }
        CHECK.equal("33: coins", 120, x.coins());
    }
}
