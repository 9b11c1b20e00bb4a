import java.util.List;
import java.util.function.Consumer;

/** A method that throws changes nothing, and of several exceptions it throws the one that is named first. */
public final class RefusalTest {
    private static final Check CHECK = new Check();
    private static final Class<IndexOutOfBoundsException> NO_SUCH = IndexOutOfBoundsException.class;
    private static final Class<IllegalStateException> NOT_NOW = IllegalStateException.class;
    private static final Class<IllegalArgumentException> BAD = IllegalArgumentException.class;
    private static final int[] NO_STRAYS = {-1, 7, 8, 11, 12, 13, Integer.MIN_VALUE, Integer.MAX_VALUE};
    private static final int HERE = 0;
    private static final int TO_COME = 1;
    private static final int ADOPTED = 2;
    private static final int GONE = 3;
    private static final int HOUSED = 4;
    private static final int HOUSED_TOO = 5;
    private static final int LONELY = 6;

    public static void main(String[] args) {
        hasOneOfEachSort();
        refusesToFeedTheTape();
        refusesToTrim();
        refusesOtherStrays();
        refusesOtherHouses();
        refusesStraysThatAreNotHere();
        refusesStraysInNoHouse();
        refusesToFeedStrays();
        refusesToTrain();
        refusesToHouse();
        refusesToFree();
        refusesToOffer();
        refusesToDonate();
        refusesDays();
        refusesWithoutStrays();
        CHECK.end();
    }

    /** Two houses, no coin, a stray of each sort, an error of the latest teach, and something on the tape. */
    private static MarkShelter machine() {
        MarkShelter x = Check.taught("houses 2; coins 1; stray h is dash on 0; stray t is stop on 9;"
            + "stray a is comma on 0; stray g is quote on 0; stray p is stop on 0; stray q is dash on 0;"
            + "stray l is quote on 0; train h; train a; offer a when day = 0; house p; house q; train l when day < 3;"
            + "feed h when coins > 0; free p when day = 4;");
        x.passDays(1);
        while (x.coins() > 0) {
            x.feedStray(HERE);
        }
        Check.write(x, "houses 3; nonsense;");
        x.teach();
        Check.write(x, "houses 4; coins 9; stray z is stop on 0;");
        return x;
    }

    private static void hasOneOfEachSort() {
        MarkShelter x = machine();
        CHECK.equal("no coin", 0, x.coins());
        CHECK.equal("the error of the latest teach", 10, x.errorAt());
        CHECK.equal("the tape", 40, x.trim(40));
        boolean[] here = {true, false, false, false, true, true, true};
        for (int i = 0; i < here.length; i++) {
            CHECK.equal(i + " is here", here[i], x.isHere(i));
            CHECK.equal(i + " is adopted", i == ADOPTED, x.isAdopted(i));
            CHECK.equal(i + " is gone", i == GONE, x.isGone(i));
            CHECK.equal(i + " is in a house", i == HOUSED || i == HOUSED_TOO, x.isHoused(i));
        }
    }

    private static void changesNothing(String what, Class<? extends RuntimeException> want, Consumer<MarkShelter> call) {
        MarkShelter x = machine();
        MarkShelter same = machine();
        CHECK.refuses(what, want, () -> {
            call.accept(x);
            return "no exception";
        });
        CHECK.equal(what + " changes no answer", Check.everything(same), Check.everything(x));
        CHECK.equal(what + " changes no tape", 60, x.feed(0x20202020, 0x20202020, 0x20202020, 0x20202020, 0x20202020));
        x.passDays(4);
        same.passDays(4);
        CHECK.equal(what + " changes no day", Check.everything(same), Check.everything(x));
        CHECK.equal(what + " changes no book on the tape", 0, x.teach());
        CHECK.equal(what + " changes no number on the tape", List.of(4, 9, 1), List.of(x.houses(), x.coins(), x.strays()));
    }

    private static void refusesToFeedTheTape() {
        for (int length = 1981; length <= 2000; length++) {
            MarkShelter x = Check.taught("houses 2; coins 5; stray a is comma on 0;");
            Check.write(x, "houses 4;" + " ".repeat(length - 9));
            CHECK.notNow("2: feed to " + (length + 20), () -> x.feed(-1, -1, -1, -1, -1));
            int tooMany = length + 1;
            CHECK.badArgument("2: a refused feed adds nothing to " + length, () -> x.trim(tooMany));
            CHECK.equal("2: a refused feed takes nothing from " + length, length, x.trim(length));
            CHECK.equal("2: a refused feed teaches nothing", 2, x.houses());
            CHECK.equal("2: the tape is as it was", 0, x.teach());
            CHECK.equal("2: and is read", 4, x.houses());
        }
    }

    private static void refusesToTrim() {
        for (int wrong : new int[] {-1, 41, 60, 2000, 2001, Integer.MIN_VALUE, Integer.MAX_VALUE}) {
            changesNothing("3: trim " + wrong, BAD, x -> x.trim(wrong));
        }
    }

    private static void refusesOtherStrays() {
        for (int wrong : NO_STRAYS) {
            changesNothing("15: kindOf " + wrong, NO_SUCH, x -> x.kindOf(wrong));
            changesNothing("16: dayOf " + wrong, NO_SUCH, x -> x.dayOf(wrong));
            changesNothing("17: isHere " + wrong, NO_SUCH, x -> x.isHere(wrong));
            changesNothing("18: isAdopted " + wrong, NO_SUCH, x -> x.isAdopted(wrong));
            changesNothing("19: isGone " + wrong, NO_SUCH, x -> x.isGone(wrong));
            changesNothing("20: hungerOf " + wrong, NO_SUCH, x -> x.hungerOf(wrong));
            changesNothing("21: wildnessOf " + wrong, NO_SUCH, x -> x.wildnessOf(wrong));
            changesNothing("22: isHoused " + wrong, NO_SUCH, x -> x.isHoused(wrong));
            changesNothing("23: houseOf " + wrong, NO_SUCH, x -> x.houseOf(wrong));
            changesNothing("24: isPaired " + wrong, NO_SUCH, x -> x.isPaired(wrong));
            changesNothing("25: isReady " + wrong, NO_SUCH, x -> x.isReady(wrong));
            changesNothing("28: feedStray " + wrong, NO_SUCH, x -> x.feedStray(wrong));
            changesNothing("29: train " + wrong, NO_SUCH, x -> x.train(wrong));
            changesNothing("30: house " + wrong, NO_SUCH, x -> x.house(wrong));
            changesNothing("31: free " + wrong, NO_SUCH, x -> x.free(wrong));
            changesNothing("32: offer " + wrong, NO_SUCH, x -> x.offer(wrong));
            changesNothing("37: daysUntilGone " + wrong, NO_SUCH, x -> x.daysUntilGone(wrong));
            changesNothing("38: daysUntilAdopted " + wrong, NO_SUCH, x -> x.daysUntilAdopted(wrong));
        }
    }

    private static void refusesOtherHouses() {
        for (int wrong : new int[] {-1, 2, 3, 6, Integer.MIN_VALUE, Integer.MAX_VALUE}) {
            changesNothing("27: straysIn " + wrong, NO_SUCH, x -> x.straysIn(wrong));
        }
        MarkShelter x = new MarkShelter();
        CHECK.equal("27: the last house of a new object", 0, x.straysIn(2));
        CHECK.noStray("27: the house behind it", () -> x.straysIn(3));
    }

    private static void refusesStraysThatAreNotHere() {
        for (int stray : new int[] {TO_COME, ADOPTED, GONE}) {
            changesNothing("20: hungerOf " + stray, NOT_NOW, x -> x.hungerOf(stray));
            changesNothing("21: wildnessOf " + stray, NOT_NOW, x -> x.wildnessOf(stray));
        }
    }

    private static void refusesStraysInNoHouse() {
        for (int stray : new int[] {HERE, TO_COME, ADOPTED, GONE, LONELY}) {
            changesNothing("23: houseOf " + stray, NOT_NOW, x -> x.houseOf(stray));
        }
    }

    private static void refusesToFeedStrays() {
        for (int stray : new int[] {HERE, TO_COME, ADOPTED, GONE, HOUSED}) {
            changesNothing("28: feedStray " + stray + " without a coin", NOT_NOW, x -> x.feedStray(stray));
        }
        MarkShelter x = machine();
        x.donate(5);
        for (int stray : new int[] {TO_COME, ADOPTED, GONE}) {
            CHECK.notNow("28: feedStray " + stray + " with a coin", () -> x.feedStray(stray));
        }
        CHECK.equal("28: no coin is paid", 5, x.coins());
    }

    private static void refusesToTrain() {
        for (int stray : new int[] {TO_COME, ADOPTED, GONE}) {
            changesNothing("29: train " + stray, NOT_NOW, x -> x.train(stray));
        }
    }

    private static void refusesToHouse() {
        for (int stray : new int[] {TO_COME, ADOPTED, GONE, HOUSED, HOUSED_TOO}) {
            changesNothing("30: house " + stray, NOT_NOW, x -> x.house(stray));
        }
        MarkShelter x = Check.taught("houses 1; stray a is dash on 0; stray b is quote on 0; stray c is quote on 0;");
        x.house(1);
        x.house(0);
        long before = x.digest();
        CHECK.notNow("30: no house has room", () -> x.house(2));
        CHECK.equal("30: nothing is changed", before, x.digest());
    }

    private static void refusesToFree() {
        for (int stray : new int[] {HERE, TO_COME, ADOPTED, GONE, LONELY}) {
            changesNothing("31: free " + stray, NOT_NOW, x -> x.free(stray));
        }
    }

    private static void refusesToOffer() {
        for (int stray : new int[] {HERE, TO_COME, ADOPTED, GONE, HOUSED_TOO, LONELY}) {
            changesNothing("32: offer " + stray, NOT_NOW, x -> x.offer(stray));
        }
    }

    private static void refusesToDonate() {
        for (int wrong : new int[] {-99, -1, 0, 100, Integer.MIN_VALUE, Integer.MAX_VALUE}) {
            changesNothing("33: donate " + wrong, BAD, x -> x.donate(wrong));
        }
    }

    private static void refusesDays() {
        for (int wrong : new int[] {-1, 0, 31, 40, Integer.MIN_VALUE, Integer.MAX_VALUE}) {
            changesNothing("34: passDays " + wrong, BAD, x -> x.passDays(wrong));
            changesNothing("35: adoptedAfter " + wrong, BAD, x -> x.adoptedAfter(wrong));
            changesNothing("36: goneAfter " + wrong, BAD, x -> x.goneAfter(wrong));
        }
    }

    /** No stray is there and none is here: that there is none comes first. */
    private static void refusesWithoutStrays() {
        MarkShelter x = new MarkShelter();
        for (int wrong : new int[] {-1, 0, 1, 11, 12}) {
            CHECK.noStray("20: hungerOf " + wrong, () -> x.hungerOf(wrong));
            CHECK.noStray("21: wildnessOf " + wrong, () -> x.wildnessOf(wrong));
            CHECK.noStray("23: houseOf " + wrong, () -> x.houseOf(wrong));
            CHECK.noStray("28: feedStray " + wrong, () -> x.feedStray(wrong));
            CHECK.noStray("29: train " + wrong, () -> x.train(wrong));
            CHECK.noStray("30: house " + wrong, () -> x.house(wrong));
            CHECK.noStray("31: free " + wrong, () -> x.free(wrong));
            CHECK.noStray("32: offer " + wrong, () -> x.offer(wrong));
            CHECK.noStray("37: daysUntilGone " + wrong, () -> x.daysUntilGone(wrong));
            CHECK.noStray("38: daysUntilAdopted " + wrong, () -> x.daysUntilAdopted(wrong));
        }
    }
}
