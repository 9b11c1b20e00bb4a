/** Promises 1 and 6 to 14: a new object, and the machine. */
public final class MachineTest {
    private static final Check CHECK = new Check();

    public static void main(String[] args) {
        isNew();
        countsAsItGoes();
        countsRoom();
        isApartFromOthers();
        CHECK.end();
    }

    private static void isNew() {
        MarkShelter x = new MarkShelter();
        CHECK.equal("1: strays", 0, x.strays());
        CHECK.equal("1: houses", 3, x.houses());
        CHECK.equal("1: coins", 20, x.coins());
        CHECK.equal("1: day", 0, x.day());
        CHECK.equal("1: ordersCarriedOut", 0, x.ordersCarriedOut());
        CHECK.equal("1: here", 0, x.here());
        CHECK.equal("1: adopted", 0, x.adopted());
        CHECK.equal("1: gone", 0, x.gone());
        CHECK.equal("1: room", 6, x.room());
        CHECK.equal("1: errorAt", -1, x.errorAt());
        CHECK.noStray("1: kindOf", () -> x.kindOf(0));
        CHECK.equal("1: passDays", 0, x.passDays(30));
        CHECK.equal("1: no orders", 0, x.ordersCarriedOut());
        CHECK.equal("1: day 30", 30, x.day());
    }

    private static void countsAsItGoes() {
        MarkShelter x = Check.taught("houses 5; coins 7; stray a is comma on 0; stray b is stop on 0;"
            + "stray c is quote on 0; stray d is dash on 3; house b; offer b; feed a when day<2; train c;");
        CHECK.equal("6: strays", 4, x.strays());
        CHECK.equal("7: houses", 5, x.houses());
        CHECK.equal("8: coins", 7, x.coins());
        CHECK.equal("9: day", 0, x.day());
        CHECK.equal("10: ordersCarriedOut", 0, x.ordersCarriedOut());
        CHECK.equal("11: here", 3, x.here());
        CHECK.equal("12: adopted", 0, x.adopted());
        CHECK.equal("13: gone", 0, x.gone());
        CHECK.equal("14: room", 10, x.room());
        x.train(2);
        x.feedStray(2);
        CHECK.equal("10: by hand is no order", 0, x.ordersCarriedOut());
        CHECK.equal("8: feeding by hand costs a coin", 6, x.coins());
        x.passDays(1);
        CHECK.equal("6: strays stay", 4, x.strays());
        CHECK.equal("8: coins, one fed, one adopted", 10, x.coins());
        CHECK.equal("9: day", 1, x.day());
        CHECK.equal("10: ordersCarriedOut", 4, x.ordersCarriedOut());
        CHECK.equal("11: here", 2, x.here());
        CHECK.equal("12: adopted", 1, x.adopted());
        CHECK.equal("13: gone", 0, x.gone());
        CHECK.equal("14: room", 10, x.room());
        x.passDays(5);
        CHECK.equal("9: day", 6, x.day());
        CHECK.equal("11: here", 1, x.here());
        CHECK.equal("12: adopted", 1, x.adopted());
        CHECK.equal("13: gone", 2, x.gone());
        CHECK.equal("6: strays", 4, x.strays());
    }

    private static void countsRoom() {
        MarkShelter x = Check.taught("houses 1; stray a is comma on 0; stray b is stop on 0; stray c is dash on 0;");
        CHECK.equal("14: room", 2, x.room());
        x.house(0);
        CHECK.equal("14: room", 1, x.room());
        x.house(2);
        CHECK.equal("14: room", 0, x.room());
        CHECK.notNow("14: no room", () -> x.house(1));
        x.passDays(3);
        CHECK.equal("14: the comma is gone from it", 1, x.room());
        x.free(2);
        CHECK.equal("14: room", 2, x.room());
        x.house(1);
        CHECK.equal("14: room", 1, x.room());
        x.feedStray(1);
        x.train(1);
        x.train(1);
        x.feedStray(1);
        x.offer(1);
        CHECK.equal("14: the stop is adopted from it", 2, x.room());
    }

    /** Two machines in turns answer what each of them answers alone. */
    private static void isApartFromOthers() {
        String[] books = {
            "houses 2; coins 9; stray a is stop on 0; stray b is quote on 1; house a; feed b; offer a when day = 2;",
            "coins 3; stray c is dash on 0; train c; house c when wild of c < 5; feed c when room < 6;",
        };
        MarkShelter[] inTurns = {new MarkShelter(), new MarkShelter()};
        for (int i = 0; i < 2; i++) {
            Check.write(inTurns[i], books[i]);
        }
        for (int i = 0; i < 2; i++) {
            CHECK.equal("1: teach in turns", 0, inTurns[i].teach());
        }
        for (int days = 1; days <= 6; days++) {
            for (int i = 0; i < 2; i++) {
                inTurns[i].passDays(1);
            }
            for (int i = 0; i < 2; i++) {
                MarkShelter alone = Check.taught(books[i]);
                alone.passDays(days);
                CHECK.equal("1: machine " + i + " in day " + days, Check.everything(alone), Check.everything(inTurns[i]));
            }
        }
        MarkShelter another = new MarkShelter();
        CHECK.equal("1: another new one is new", Check.everything(new MarkShelter()), Check.everything(another));
        CHECK.equal("1: without strays", 0, another.strays());
    }
}
