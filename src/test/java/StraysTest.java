/** Promises 15 to 27: strays, and how many are in a house. */
public final class StraysTest {
    private static final Check CHECK = new Check();
    private static final String FOUR = "stray a is comma on 0; stray b is dash on 2; stray c is stop on 30; "
        + "stray d is quote on 0; ";

    public static void main(String[] args) {
        tellsOfStrays();
        refusesOtherStrays();
        tellsOfThoseWhoAreNotHere();
        tellsHungerAndWildness();
        tellsHouses();
        tellsPairs();
        tellsWhoIsReady();
        findsTheHungriest();
        countsInHouses();
        CHECK.end();
    }

    private static void tellsOfStrays() {
        MarkShelter x = Check.taught(FOUR);
        int[] days = {0, 2, 30, 0};
        for (int i = 0; i < 4; i++) {
            CHECK.equal("15: kindOf " + i, i, x.kindOf(i));
            CHECK.equal("16: dayOf " + i, days[i], x.dayOf(i));
            CHECK.equal("17: isHere " + i, days[i] == 0, x.isHere(i));
            CHECK.equal("18: isAdopted " + i, false, x.isAdopted(i));
            CHECK.equal("19: isGone " + i, false, x.isGone(i));
        }
        x.passDays(1);
        CHECK.equal("17: not yet in day 1", false, x.isHere(1));
        x.passDays(1);
        CHECK.equal("17: in day 2", true, x.isHere(1));
        x.passDays(27);
        CHECK.equal("17: not yet in day 29", false, x.isHere(2));
        x.passDays(1);
        CHECK.equal("17: in day 30", true, x.isHere(2));
        CHECK.equal("19: a is gone", true, x.isGone(0));
        CHECK.equal("17: a is not here", false, x.isHere(0));
        CHECK.equal("15: kind of one that is gone", 0, x.kindOf(0));
        CHECK.equal("16: day of one that is gone", 0, x.dayOf(0));
        x.house(2);
        x.offer(2);
        CHECK.equal("18: c is adopted", true, x.isAdopted(2));
        CHECK.equal("17: c is not here", false, x.isHere(2));
        CHECK.equal("19: c is not gone", false, x.isGone(2));
    }

    private static void refusesOtherStrays() {
        MarkShelter x = Check.taught(FOUR);
        for (int wrong : new int[] {-1, 4, 12, Integer.MIN_VALUE, Integer.MAX_VALUE}) {
            CHECK.noStray("15: kindOf " + wrong, () -> x.kindOf(wrong));
            CHECK.noStray("16: dayOf " + wrong, () -> x.dayOf(wrong));
            CHECK.noStray("17: isHere " + wrong, () -> x.isHere(wrong));
            CHECK.noStray("18: isAdopted " + wrong, () -> x.isAdopted(wrong));
            CHECK.noStray("19: isGone " + wrong, () -> x.isGone(wrong));
            CHECK.noStray("20: hungerOf " + wrong, () -> x.hungerOf(wrong));
            CHECK.noStray("21: wildnessOf " + wrong, () -> x.wildnessOf(wrong));
            CHECK.noStray("22: isHoused " + wrong, () -> x.isHoused(wrong));
            CHECK.noStray("23: houseOf " + wrong, () -> x.houseOf(wrong));
            CHECK.noStray("24: isPaired " + wrong, () -> x.isPaired(wrong));
            CHECK.noStray("25: isReady " + wrong, () -> x.isReady(wrong));
        }
    }

    private static void tellsOfThoseWhoAreNotHere() {
        MarkShelter x = Check.taught(FOUR);
        CHECK.notNow("20: hunger of one to come", () -> x.hungerOf(1));
        CHECK.notNow("21: wildness of one to come", () -> x.wildnessOf(1));
        CHECK.notNow("23: house of one to come", () -> x.houseOf(1));
        CHECK.equal("22: one to come", false, x.isHoused(1));
        CHECK.equal("24: one to come", false, x.isPaired(1));
        CHECK.equal("25: one to come", false, x.isReady(1));
        x.house(0);
        x.passDays(3);
        CHECK.notNow("20: hunger of one that is gone", () -> x.hungerOf(0));
        CHECK.notNow("21: wildness of one that is gone", () -> x.wildnessOf(0));
        CHECK.notNow("23: house of one that is gone", () -> x.houseOf(0));
        CHECK.equal("22: one that is gone", false, x.isHoused(0));
        CHECK.equal("25: one that is gone", false, x.isReady(0));
    }

    private static void tellsHungerAndWildness() {
        MarkShelter x = Check.taught("stray a is comma on 0; stray b is dash on 0; stray c is stop on 0;"
            + "stray d is quote on 0;");
        int[] wildness = {3, 8, 2, 6};
        for (int i = 0; i < 4; i++) {
            CHECK.equal("20: hungerOf " + i, 4, x.hungerOf(i));
            CHECK.equal("21: wildnessOf " + i, wildness[i], x.wildnessOf(i));
        }
        x.feedStray(3);
        x.train(3);
        x.passDays(1);
        CHECK.equal("20: hunger of d", 3, x.hungerOf(3));
        CHECK.equal("21: wildness of d", 4, x.wildnessOf(3));
    }

    private static void tellsHouses() {
        MarkShelter x = Check.taught(FOUR);
        CHECK.equal("22: isHoused", false, x.isHoused(0));
        CHECK.notNow("23: houseOf", () -> x.houseOf(0));
        x.house(0);
        x.house(3);
        CHECK.equal("22: isHoused", true, x.isHoused(0));
        CHECK.equal("23: houseOf", 0, x.houseOf(0));
        CHECK.equal("23: houseOf", 0, x.houseOf(3));
        x.free(0);
        CHECK.equal("22: isHoused", false, x.isHoused(0));
        CHECK.notNow("23: houseOf", () -> x.houseOf(0));
    }

    private static void tellsPairs() {
        MarkShelter x = Check.taught("stray a is quote on 0; stray b is quote on 0; stray c is comma on 0;"
            + "stray d is comma on 0;");
        CHECK.equal("24: two in no house are no pair", false, x.isPaired(0));
        x.house(2);
        x.house(0);
        CHECK.equal("24: with a comma", false, x.isPaired(0));
        x.house(1);
        CHECK.equal("24: in two houses", false, x.isPaired(1));
        x.free(0);
        x.house(0);
        CHECK.equal("24: a is paired", true, x.isPaired(0));
        CHECK.equal("24: b is paired", true, x.isPaired(1));
        x.house(3);
        CHECK.equal("24: commas are none", false, x.isPaired(2));
        x.free(1);
        CHECK.equal("24: a alone", false, x.isPaired(0));
    }

    private static void tellsWhoIsReady() {
        MarkShelter x = Check.taught("coins 99; stray a is comma on 0; stray b is dash on 0; stray c is stop on 0;"
            + "stray d is quote on 0; stray e is quote on 0; train b; train d; train e; feed b; feed d;");
        CHECK.equal("25: a wild comma", false, x.isReady(0));
        x.train(0);
        CHECK.equal("25: a tame comma with hunger 5", true, x.isReady(0));
        x.train(0);
        CHECK.equal("25: a tame comma with hunger 6", false, x.isReady(0));
        CHECK.equal("25: a stop in no house", false, x.isReady(2));
        x.house(2);
        CHECK.equal("25: a stop in a house", true, x.isReady(2));
        x.train(2);
        x.train(2);
        CHECK.equal("25: a hungry stop", false, x.isReady(2));
        x.train(3);
        x.train(3);
        x.feedStray(3);
        CHECK.equal("25: a quote alone", false, x.isReady(3));
        x.house(3);
        x.house(4);
        x.free(3);
        x.house(3);
        CHECK.equal("25: paired", true, x.isPaired(3));
        CHECK.equal("25: a quote paired with a wild one", false, x.isReady(3));
        x.train(4);
        x.train(4);
        CHECK.equal("25: paired with a hungry one", false, x.isReady(3));
        x.feedStray(4);
        CHECK.equal("25: paired with a fit one", true, x.isReady(3));
        CHECK.equal("25: and the other one", true, x.isReady(4));
        for (int i = 0; i < 3; i++) {
            CHECK.equal("25: a wild dash", false, x.isReady(1));
            x.train(1);
            x.feedStray(1);
        }
        CHECK.equal("25: a tame dash in no house", true, x.isReady(1));
    }

    private static void findsTheHungriest() {
        MarkShelter x = Check.taught("stray z is comma on 9; stray a is stop on 0; stray b is stop on 0;"
            + "stray c is comma on 0;");
        CHECK.equal("26: the first of several", 1, x.hungriest());
        x.train(2);
        CHECK.equal("26: the greatest", 2, x.hungriest());
        x.train(1);
        CHECK.equal("26: the first of two", 1, x.hungriest());
        x.passDays(1);
        CHECK.equal("26: the first of three", 1, x.hungriest());
        x.passDays(1);
        CHECK.equal("26: the comma", 3, x.hungriest());
        x.passDays(3);
        CHECK.equal("26: none", -1, x.hungriest());
        MarkShelter y = Check.taught("stray a is comma on 0; feed a;");
        y.feedStray(0);
        y.feedStray(0);
        CHECK.equal("26: a hunger of 0", 0, y.hungriest());
    }

    private static void countsInHouses() {
        MarkShelter x = Check.taught("houses 2; stray a is comma on 0; stray b is dash on 0; stray c is stop on 0;");
        CHECK.equal("27: straysIn", 0, x.straysIn(0));
        x.house(2);
        x.house(0);
        x.house(1);
        CHECK.equal("27: straysIn 0", 2, x.straysIn(0));
        CHECK.equal("27: straysIn 1", 1, x.straysIn(1));
        for (int wrong : new int[] {-1, 2, Integer.MIN_VALUE, Integer.MAX_VALUE}) {
            CHECK.refuses("27: straysIn " + wrong, IndexOutOfBoundsException.class, () -> x.straysIn(wrong));
        }
        x.passDays(3);
        CHECK.equal("27: the comma is gone", 1, x.straysIn(0));
        MarkShelter y = Check.taught("houses 6;");
        CHECK.equal("27: straysIn 5", 0, y.straysIn(5));
        CHECK.refuses("27: straysIn 6", IndexOutOfBoundsException.class, () -> y.straysIn(6));
    }
}
