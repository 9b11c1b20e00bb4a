/** The edges of a day: its orders and tests, sums, growing hunger and wildness, running away, and coming. */
public final class DayEdgeTest {
    private static final Check CHECK = new Check();
    private static final String[] KINDS = {"comma", "dash", "stop", "quote"};
    private static final String MOST = "(32768*65535+32767)";
    private static final String LEAST = "(32768*65536)";

    public static void main(String[] args) {
        reckonsAtTheEndsOfTheNumbers();
        divides();
        joinsOperationsFromTheLeft();
        comparesAtEachEdge();
        joinsTests();
        reckonsOfStraysThatAreNotHere();
        reckonsInItsTurn();
        carriesOutWhatCanBeDone();
        countsWhatIsCarriedOut();
        growsEachHunger();
        growsWildness();
        losesTheHungry();
        losesLonelyQuotes();
        losesOneOfAPair();
        freesThePlaceOfTheGone();
        letsThemCome();
        begunByTheirOrders();
        CHECK.end();
    }

    /** Whether a test holds in the day 0, with 20 coins, 3 houses, and a comma here. */
    private static void test(String test, boolean want) {
        MarkShelter x = Check.taught("stray a is comma on 0; train a when " + test + ";");
        x.passDays(1);
        CHECK.equal(test, want ? 1 : 0, x.ordersCarriedOut());
    }

    private static void reckonsAtTheEndsOfTheNumbers() {
        test(MOST + ">0", true);
        test(LEAST + "<0", true);
        test(MOST + "+1=" + LEAST, true);
        test("1+" + MOST + "<0", true);
        test(LEAST + "-1=" + MOST, true);
        test(LEAST + "+-1>0", true);
        test("-" + MOST + "-1=" + LEAST, true);
        test("-" + MOST + "-2=" + MOST, true);
        test("0-" + LEAST + "=" + LEAST, true);
        test("-" + LEAST + "=" + LEAST, true);
        test("-" + LEAST + "<0", true);
        test(MOST + "+" + MOST + "=-2", true);
        test(LEAST + "+" + LEAST + "=0", true);
        test(MOST + "-" + LEAST + "=-1", true);
        test("65536*65536=0", true);
        test("65536*65535=-65536", true);
        test("46341*46341<0", true);
        test("46340*46340>0", true);
        test(LEAST + "*-1=" + LEAST, true);
        test(LEAST + "*2=0", true);
        test(MOST + "*" + MOST + "=1", true);
        test("999999*999999=-(729379*1000+967)", true);
        test(LEAST + "<" + MOST, true);
        test(MOST + "<" + LEAST, false);
        test("min(" + LEAST + "," + MOST + ")=" + LEAST, true);
        test("max(" + LEAST + "," + MOST + ")=" + MOST, true);
    }

    private static void divides() {
        test("7/2=3 and -7/2=-3 and 7/-2=-3 and -7/-2=3", true);
        test("1/2=0 and -1/2=0 and 1/-2=0", true);
        test("6/3=2 and 6/7=0 and 6/6=1 and 0/6=0", true);
        test("1/0=0 and -1/0=0 and 0/0=0", true);
        test(MOST + "/0=0 and " + LEAST + "/0=0", true);
        test("5/0+3=3 and 7-5/0=7 and 9/(here-1)=0", true);
        test(LEAST + "/-1=" + LEAST, true);
        test(LEAST + "/1=" + LEAST, true);
        test(MOST + "/-1=-" + MOST, true);
        test(LEAST + "/" + LEAST + "=1", true);
        test(LEAST + "/" + MOST + "=-1", true);
        test(MOST + "/" + LEAST + "=0", true);
        test(LEAST + "/2=-(16384*65536)", true);
    }

    private static void joinsOperationsFromTheLeft() {
        test("10-3-2=5", true);
        test("1-2+3=2", true);
        test("100/5/2=10", true);
        test("7/2*2=6", true);
        test("2*7/2=7", true);
        test("2+3*4=14", true);
        test("2*3+4=10", true);
        test("(2+3)*4=20", true);
        test("20-8/2=16", true);
        test("-1-1=-2", true);
        test("-2*-3=6", true);
        test("--3=3", true);
        test("-(1+2)*2=-6", true);
        test("-7/2*2=-6", true);
        test("max(1,2)*min(3,4)-max(5,-6)=1", true);
        test("min(1+1,2*2)=2 and max(min(1,2),min(3,4))=3", true);
    }

    private static void comparesAtEachEdge() {
        for (int a = -1; a <= 1; a++) {
            for (int b = -1; b <= 1; b++) {
                test(a + "<" + b, a < b);
                test(a + ">" + b, a > b);
                test(a + "=" + b, a == b);
                test(a + "<=" + b, a <= b);
                test(a + ">=" + b, a >= b);
                test("min(" + a + "," + b + ")=" + Math.min(a, b), true);
                test("max(" + a + "," + b + ")=" + Math.max(a, b), true);
            }
        }
    }

    private static void joinsTests() {
        String[] signs = {"1=2", "1=1"};
        for (int i = 0; i < 8; i++) {
            boolean a = (i & 1) > 0;
            boolean b = (i & 2) > 0;
            boolean c = (i & 4) > 0;
            String p = signs[i & 1];
            String q = signs[i >> 1 & 1];
            String r = signs[i >> 2];
            test(p + " and " + q, a && b);
            test(p + " or " + q, a || b);
            test("not " + p, !a);
            test("not not " + p, a);
            test(p + " and " + q + " or " + r, a && b || c);
            test(p + " or " + q + " and " + r, a || b && c);
            test("[" + p + " or " + q + "] and " + r, (a || b) && c);
            test(p + " and [" + q + " or " + r + "]", a && (b || c));
            test("not " + p + " and " + q, !a && b);
            test("not " + p + " or " + q, !a || b);
            test("not [" + p + " and " + q + "]", !(a && b));
            test(p + " and not " + q + " or not " + r, a && !b || !c);
            test(p + " and " + q + " and " + r, a && b && c);
            test(p + " or " + q + " or " + r, a || b || c);
        }
    }

    /** t is to come, d was adopted, g is gone; c is here. */
    private static MarkShelter notHere(String test) {
        MarkShelter x = Check.taught("stray t is quote on 30; stray d is stop on 0; stray g is quote on 0;"
            + "stray c is dash on 0; train c when day=1 and " + test + ";");
        x.house(1);
        x.offer(1);
        x.passDays(1);
        return x;
    }

    private static void reckonsOfStraysThatAreNotHere() {
        MarkShelter sorts = notHere("1=1");
        CHECK.equal("to come, adopted and gone", true, !sorts.isHere(0) && sorts.isAdopted(1) && sorts.isGone(2));
        for (String name : new String[] {"t", "d", "g"}) {
            for (String test : "hunger of N=0|wild of N=0|hunger of N+wild of N*2=0|not housed N|not paired N|not ready N"
                    .split("\\|")) {
                MarkShelter x = notHere(test.replace("N", name));
                x.passDays(1);
                CHECK.equal(test.replace("N", name), 1, x.ordersCarriedOut());
            }
        }
        MarkShelter x = notHere("here=1 and hunger of c=5 and wild of c=9 and coins=25 and room=6");
        x.passDays(1);
        CHECK.equal("who is here", 1, x.ordersCarriedOut());
    }

    private static void reckonsInItsTurn() {
        String strays = "coins 2; stray a is comma on 0; stray b is dash on 0; stray s is stop on 0; stray p is quote on 0;"
            + "stray q is quote on 0;";
        String[] orders = {
            "feed a when coins=2; feed b when coins=2;",
            "house a when room=6; house b when room=6;",
            "house a when not housed a; free a when not housed a;",
            "train a when hunger of a=4; train a when hunger of a=4;",
            "train b when wild of b=8; train b when wild of b=8;",
            "train a when not ready a; train a when not ready a;",
        };
        for (String two : orders) {
            MarkShelter x = Check.taught(strays + two);
            x.passDays(1);
            CHECK.equal("only the first of " + two, 1, x.ordersCarriedOut());
        }
        MarkShelter x = Check.taught(strays + "house s; offer s when here=5; train a when here=5; train b when here=4;"
            + "feed a when coins=7; house p when room=6; house q when room=5; train p when paired p and paired q;"
            + "free q when paired p; train q when paired p; train q when not paired p and not paired q;");
        CHECK.equal("one is adopted", 1, x.passDays(1));
        CHECK.equal("all that hold in their turn", 9, x.ordersCarriedOut());
        CHECK.equal("a was only fed", 3, x.hungerOf(0));
        CHECK.equal("b was trained", 7, x.wildnessOf(1));
        CHECK.equal("p was trained once", 4, x.wildnessOf(3));
        CHECK.equal("q was trained once", 4, x.wildnessOf(4));
        MarkShelter y = Check.taught(strays + "feed a when day=1; feed a when day=1; feed b when day>=3;");
        int[] carried = {0, 2, 2, 2};
        for (int i = 0; i < 4; i++) {
            y.passDays(1);
            CHECK.equal("orders behind the day " + i, carried[i], y.ordersCarriedOut());
        }
    }

    private static int carriedOut(String book) {
        MarkShelter x = Check.taught(book);
        x.passDays(1);
        return x.ordersCarriedOut();
    }

    private static void carriesOutWhatCanBeDone() {
        String a = "coins 0; stray a is stop on 0; stray t is stop on 1;";
        CHECK.equal("feed without a coin", 0, carriedOut(a + "feed a;"));
        CHECK.equal("feed with a coin", 1, carriedOut(a.replace("coins 0", "coins 1") + "feed a;"));
        CHECK.equal("feed with one coin, twice", 1, carriedOut(a.replace("coins 0", "coins 1") + "feed a; feed a;"));
        CHECK.equal("train", 1, carriedOut(a + "train a;"));
        CHECK.equal("house twice", 1, carriedOut(a + "house a; house a;"));
        CHECK.equal("free", 0, carriedOut(a + "free a;"));
        CHECK.equal("house and free twice", 2, carriedOut(a + "house a; free a; free a;"));
        CHECK.equal("offer", 0, carriedOut(a + "offer a;"));
        CHECK.equal("house and offer twice", 2, carriedOut(a + "house a; offer a; offer a;"));
        CHECK.equal("nothing with one that was adopted", 2,
            carriedOut("coins 9;" + a.substring(8) + "house a; offer a; feed a; train a; house a; free a;"));
        CHECK.equal("nothing with one to come", 0,
            carriedOut("coins 9;" + a.substring(8) + "feed t; train t; house t; free t; offer t;"));
        CHECK.equal("a full house", 2, carriedOut("houses 1; stray a is dash on 0; stray b is dash on 0;"
            + "stray c is dash on 0; house a; house b; house c;"));
        CHECK.equal("a pair is adopted by one order", 9, carriedOut("coins 9; stray a is quote on 0; stray b is quote on 0;"
            + "house a; house b; train a; train a; feed a; train b; train b; feed b; offer b; offer a;"));
    }

    private static void countsWhatIsCarriedOut() {
        MarkShelter x = Check.taught("stray a is dash on 0; stray b is dash on 2; house a; house b; feed a when day<1;"
            + "feed b when day<1; free b when day=4;");
        int[] due = {0, 2, 2, 3, 3, 4, 5};
        for (int i = 0; i < 6; i++) {
            CHECK.equal("10: in day " + i, due[i], x.ordersCarriedOut());
            x.adoptedAfter(10);
            x.daysUntilGone(1);
            x.bestToFeed();
            CHECK.equal("10: looking ahead is none, in day " + i, due[i], x.ordersCarriedOut());
            x.passDays(1);
        }
        CHECK.equal("10: in day 6", due[6], x.ordersCarriedOut());
        x.donate(1);
        x.train(1);
        x.feedStray(1);
        CHECK.equal("10: nor is it by hand", 5, x.ordersCarriedOut());
    }

    /** A stray of this kind with this hunger in a house with a quote, so that a quote is paired. */
    private static MarkShelter hungry(String kind, int hunger, String order) {
        MarkShelter x = Check.taught("coins 50; stray a is " + kind + " on 0; stray m is quote on 0;" + order);
        x.house(0);
        x.house(1);
        for (int i = 0; i < 2 && hunger < 4; i++) {
            x.feedStray(0);
        }
        while (x.hungerOf(0) < hunger) {
            x.train(0);
        }
        return x;
    }

    private static void growsEachHunger() {
        for (String kind : KINDS) {
            int more = kind.equals("comma") ? 2 : 1;
            for (int hunger = 0; hunger <= 9; hunger++) {
                MarkShelter x = hungry(kind, hunger, "");
                int wildness = x.wildnessOf(0);
                boolean gone = hunger + more >= 9;
                CHECK.equal(kind + " with hunger " + hunger + " ahead of it", true, x.isHere(0));
                x.passDays(1);
                CHECK.equal(kind + " with hunger " + hunger + " is gone", gone, x.isGone(0));
                CHECK.equal(kind + " with hunger " + hunger + " is here", !gone, x.isHere(0));
                if (!gone) {
                    CHECK.equal(kind + " with hunger " + hunger, hunger + more, x.hungerOf(0));
                    CHECK.equal(kind + " in a house is no wilder", wildness, x.wildnessOf(0));
                }
            }
            MarkShelter x = hungry(kind, 9, "feed a when hunger of a=9;");
            x.passDays(1);
            CHECK.equal("a " + kind + " with hunger 9 that is fed in time", 6 + more, x.hungerOf(0));
        }
    }

    private static void growsWildness() {
        int[] dash = {8, 9, 9, 9, 9, 9, 9, 9, 9, 9};
        int[] stop = {2, 3, 4, 5, 6, 7, 8, 9, 9, 9};
        MarkShelter x = Check.taught("coins 99; stray a is comma on 0; stray b is dash on 0; stray c is stop on 0;"
            + "stray d is quote on 0; stray e is quote on 0; stray f is dash on 0; stray g is stop on 0; feed a; feed b;"
            + "feed c; feed d; feed e; feed f; feed g; house d; house e; house f; house g;");
        for (int i = 0; i < 10; i++) {
            CHECK.equal("a comma in no house, day " + i, 3, x.wildnessOf(0));
            CHECK.equal("a dash in no house, day " + i, dash[i], x.wildnessOf(1));
            CHECK.equal("a stop in no house, day " + i, stop[i], x.wildnessOf(2));
            CHECK.equal("a paired quote, day " + i, 6, x.wildnessOf(3));
            CHECK.equal("a dash in a house, day " + i, 8, x.wildnessOf(5));
            CHECK.equal("a stop in a house, day " + i, 2, x.wildnessOf(6));
            x.passDays(1);
        }
        MarkShelter y = Check.taught("stray a is stop on 0; stray b is stop on 0; free a; house b;");
        y.house(0);
        y.passDays(1);
        CHECK.equal("freed in this day", 3, y.wildnessOf(0));
        CHECK.equal("housed in this day", 2, y.wildnessOf(1));
        MarkShelter z = Check.taught("stray a is quote on 0; train a;");
        z.passDays(1);
        CHECK.equal("a quote in no house", 4, z.wildnessOf(0));
    }

    private static void losesTheHungry() {
        int[] days = {3, 5, 5, 4};
        for (int kind = 0; kind < 4; kind++) {
            String order = kind == 3 ? "train a when day=0;" : "house a;";
            MarkShelter x = Check.taught("stray a is " + KINDS[kind] + " on 0;" + order);
            int behind = days[kind];
            x.passDays(behind - 1);
            CHECK.equal("a " + KINDS[kind] + " is here behind " + (behind - 1), true, x.isHere(0));
            CHECK.equal("with hunger 8", 8, x.hungerOf(0));
            x.passDays(1);
            CHECK.equal("a " + KINDS[kind] + " is gone behind " + behind, true, x.isGone(0));
            CHECK.equal("13: gone", 1, x.gone());
            CHECK.equal("11: here", 0, x.here());
            CHECK.equal("14: room", 6, x.room());
            x.passDays(30);
            CHECK.equal("it stays gone", true, x.isGone(0));
        }
    }

    private static void losesLonelyQuotes() {
        MarkShelter x = Check.taught("stray a is quote on 0; stray b is quote on 0; stray c is comma on 0;");
        x.house(0);
        x.house(2);
        x.passDays(1);
        CHECK.equal("wildness 6, with a comma in its house", true, x.isGone(0));
        CHECK.equal("wildness 6, in no house", true, x.isGone(1));
        CHECK.equal("a comma is not lonely", true, x.isHere(2));
        MarkShelter y = Check.taught("stray a is quote on 0; stray b is quote on 0; house a when day=0; house b when day=0;");
        y.passDays(2);
        CHECK.equal("wildness 6, paired", 2, y.here());
        y.train(0);
        CHECK.equal("wildness 5", 5, y.wildnessOf(0));
        y.free(1);
        y.passDays(1);
        CHECK.equal("wildness 5, alone in a house", true, y.isHere(0));
        CHECK.equal("wildness 6, freed", true, y.isGone(1));
        y.free(0);
        y.passDays(1);
        CHECK.equal("hunger 9", true, y.isGone(0));
        MarkShelter z = Check.taught("stray a is quote on 0; stray b is quote on 0; house a when day=0; house b when day=0;");
        z.passDays(2);
        z.train(1);
        z.feedStray(1);
        z.free(1);
        z.passDays(1);
        CHECK.equal("wildness 5, in no house", true, z.isHere(1));
        CHECK.equal("wildness 6, alone in a house", true, z.isGone(0));
        MarkShelter w = Check.taught("stray a is quote on 0; stray b is quote on 0; house a; house b; free b when day=0;");
        w.passDays(1);
        CHECK.equal("freed in this day", 2, w.gone());
    }

    /** Strays go by numbers, and who is left by one that has gone is looked at as it is then. */
    private static void losesOneOfAPair() {
        String three = "coins 99; stray a is quote on 0; stray b is quote on 0; house a; house b;";
        MarkShelter x = Check.taught(three + "feed b;");
        x.passDays(5);
        CHECK.equal("the first is gone by hunger, the second by that", 2, x.gone());
        MarkShelter y = Check.taught(three + "feed a;");
        y.passDays(5);
        CHECK.equal("the second is gone by hunger", true, y.isGone(1));
        CHECK.equal("the first was paired as it was looked at", true, y.isHere(0));
        CHECK.equal("and is not now", false, y.isPaired(0));
        y.passDays(1);
        CHECK.equal("in the next day it is gone", true, y.isGone(0));
        MarkShelter z = Check.taught(three + "feed b; train b when day=0;");
        z.passDays(5);
        CHECK.equal("a tamer one stays", true, z.isHere(1));
        CHECK.equal("in its house", 0, z.houseOf(1));
        CHECK.equal("with five places", 5, z.room());
    }

    private static void freesThePlaceOfTheGone() {
        MarkShelter x = Check.taught("houses 1; stray a is comma on 0; stray b is comma on 0; stray s is stop on 0;"
            + "house a; house b; house s;");
        x.passDays(3);
        CHECK.equal("both are gone", 2, x.gone());
        CHECK.equal("their places are free", 2, x.room());
        CHECK.equal("only now", false, x.isHoused(2));
        x.passDays(1);
        CHECK.equal("for the next order", 0, x.houseOf(2));
    }

    private static void letsThemCome() {
        StringBuilder book = new StringBuilder();
        for (int i = 0; i < 12; i++) {
            book.append("stray s").append(i).append(" is ").append(KINDS[i % 4]).append(" on ").append((i * 11) % 31).append(';');
        }
        for (int day = 0; day <= 30; day++) {
            MarkShelter x = Check.taught(book.toString());
            for (int i = 0; i < day; i++) {
                x.passDays(1);
            }
            CHECK.equal("9: day", day, x.day());
            for (int i = 0; i < 12; i++) {
                int its = (i * 11) % 31;
                CHECK.equal("16: day of " + i, its, x.dayOf(i));
                if (day <= its) {
                    CHECK.equal("17: stray " + i + " in day " + day, day == its, x.isHere(i));
                }
                if (day == its) {
                    CHECK.equal("hunger of one that came", 4, x.hungerOf(i));
                    CHECK.equal("wildness of one that came", new int[] {3, 8, 2, 6}[i % 4], x.wildnessOf(i));
                    CHECK.equal("it is in no house", false, x.isHoused(i));
                }
            }
        }
    }

    private static void begunByTheirOrders() {
        MarkShelter x = Check.taught("stray a is dash on 2; train a; house a;");
        x.passDays(2);
        CHECK.equal("no order for one to come", 0, x.ordersCarriedOut());
        CHECK.equal("it is as it comes", 8, x.wildnessOf(0));
        x.passDays(1);
        CHECK.equal("then all", 2, x.ordersCarriedOut());
        CHECK.equal("trained", 6, x.wildnessOf(0));
        CHECK.equal("and hungrier by that and the day", 6, x.hungerOf(0));
    }
}
