/** Section 2: what tests and sums mean, and what a day does. */
public final class PlanTest {
    private static final Check CHECK = new Check();

    public static void main(String[] args) {
        reckonsSums();
        joinsTests();
        readsTheMachine();
        carriesOutInOrder();
        letsHungerAndWildnessGrow();
        letsRunAway();
        CHECK.end();
    }

    /** Whether the test holds in the day 0 with 50 coins and 3 houses, a, q and s here and r to come. */
    private static void test(String test, boolean want) {
        MarkShelter x = Check.taught("coins 50; stray a is comma on 0; stray q is quote on 0; "
            + "stray r is quote on 3; stray s is stop on 0; house s; feed a when " + test + ";");
        x.passDays(1);
        CHECK.equal(test, want ? 2 : 1, x.ordersCarriedOut());
    }

    private static void reckonsSums() {
        test("1+2*3=7", true);
        test("0+2*3=6", true);
        test("0*3=0", true);
        test("(1+2)*3=9", true);
        test("10-3-2=5", true);
        test("100/5/2=10", true);
        test("100/5*2=40", true);
        test("2*-3=-6", true);
        test("-2-3=-5", true);
        test("- -4=4", true);
        test("-(1+2)=-3", true);
        test("-2*3+7=1", true);
        test("7/2=3", true);
        test("-7/2=-3", true);
        test("7/-2=-3", true);
        test("7/0=0", true);
        test("(0-7)/(1-1)=0", true);
        test("999999*999999=-(729379*1000+967)", true);
        test("32768*65535+32767>0", true);
        test("32768*65535+32767+1<0", true);
        test("-(32768*65536)=32768*65536", true);
        test("32768*65536/-1=32768*65536", true);
        test("32768*65536-1>0", true);
        test("min(3,4)=3 and min(4,3)=3 and max(3,4)=4 and max(4,3)=4", true);
        test("min(0,3)=0", true);
        test("max(0,3)=3", true);
        test("min(-3,2)=-3 and max(-3,2)=2", true);
        test("1<2 and not 2<2 and not 3<2", true);
        test("3>2 and not 2>2 and not 1>2", true);
        test("1<=2 and 2<=2 and not 3<=2", true);
        test("3>=2 and 2>=2 and not 1>=2", true);
        test("2=2 and not 2=3", true);
        test("-1<1", true);
    }

    private static void joinsTests() {
        test("1=1 or 1=1 and 1=2", true);
        test("[1=1 or 1=1] and 1=2", false);
        test("1=2 and 1=1 or 1=1", true);
        test("1=2 or 1=2", false);
        test("1=1 and 1=1", true);
        test("1=1 and 1=2", false);
        test("1=2 and 1=1", false);
        test("not 1=2", true);
        test("not not 1=2", false);
        test("not 1=2 and 1=2", false);
        test("not 1=1 or 1=1", true);
        test("not [1=1 or 1=1]", false);
        test("1=2 or 1=2 or 1=1", true);
    }

    private static void readsTheMachine() {
        test("day=0 and here=3 and coins=50 and room=5", true);
        test("hunger of a=4 and wild of a=3 and wild of q=6 and wild of s=2", true);
        test("hunger of r=0 and wild of r=0", true);
        test("housed s", true);
        test("housed a or housed r", false);
        test("paired q or paired r or paired a", false);
        test("ready s", true);
        test("ready a or ready q or ready r", false);
        MarkShelter x = Check.taught("stray a is comma on 1; feed a when day=2;");
        x.passDays(2);
        CHECK.equal("day 2 is not yet", 0, x.ordersCarriedOut());
        x.passDays(1);
        CHECK.equal("day 2", 1, x.ordersCarriedOut());
        MarkShelter y = Check.taught("stray a is quote on 0; stray b is quote on 0; house a; house b;"
            + "train a when paired b and paired a; free b when ready a;");
        y.passDays(1);
        CHECK.equal("paired as its turn comes", 3, y.ordersCarriedOut());
        CHECK.equal("a is trained", 4, y.wildnessOf(0));
    }

    private static void carriesOutInOrder() {
        MarkShelter x = Check.taught("coins 1; stray a is comma on 0; stray b is stop on 0;"
            + "feed a; feed b; house b; house b; free a; offer a; train a; free b when housed b;");
        x.passDays(1);
        CHECK.equal("what can be done is carried out", 4, x.ordersCarriedOut());
        CHECK.equal("a is fed and trained", 4, x.hungerOf(0));
        CHECK.equal("a is tame", 1, x.wildnessOf(0));
        CHECK.equal("b is not fed", 5, x.hungerOf(1));
        CHECK.equal("b is free", false, x.isHoused(1));
        CHECK.equal("no coin", 0, x.coins());
        MarkShelter y = Check.taught("coins 0; stray a is comma on 0; stray b is comma on 0;"
            + "train a; offer a when ready a; feed b when coins=5; feed b when coins=4;");
        CHECK.equal("adopted in its day", 1, y.passDays(1));
        CHECK.equal("coins of the adoption are there at once", 3, y.coins());
        CHECK.equal("b was fed twice", 2, y.hungerOf(1));
    }

    private static void letsHungerAndWildnessGrow() {
        MarkShelter x = Check.taught("stray a is comma on 0; stray b is dash on 0; stray c is stop on 0;"
            + "stray d is stop on 0; stray e is dash on 0; house d; house e; train b when day=0;");
        x.passDays(1);
        CHECK.equal("a comma is hungrier", 6, x.hungerOf(0));
        CHECK.equal("a dash", 6, x.hungerOf(1));
        CHECK.equal("a stop", 5, x.hungerOf(2));
        CHECK.equal("a comma is no wilder", 3, x.wildnessOf(0));
        CHECK.equal("a trained dash is wilder", 7, x.wildnessOf(1));
        CHECK.equal("a stop is wilder", 3, x.wildnessOf(2));
        CHECK.equal("a stop in a house is not", 2, x.wildnessOf(3));
        CHECK.equal("a dash in a house is not", 8, x.wildnessOf(4));
        MarkShelter y = Check.taught("stray b is dash on 0; feed b;");
        y.passDays(5);
        CHECK.equal("wildness is at most 9", 9, y.wildnessOf(0));
        CHECK.equal("hunger is at least 0, and 1 more", 1, y.hungerOf(0));
    }

    private static void letsRunAway() {
        MarkShelter x = Check.taught("stray a is comma on 0; stray b is dash on 0; stray c is quote on 0;"
            + "stray d is quote on 2; house a; train d;");
        x.passDays(1);
        CHECK.equal("a quote alone is gone", true, x.isGone(2));
        x.passDays(1);
        CHECK.equal("a comma is there with 8", 8, x.hungerOf(0));
        CHECK.equal("one comes", true, x.isHere(3));
        CHECK.equal("with its own wildness", 6, x.wildnessOf(3));
        x.passDays(1);
        CHECK.equal("a comma is gone with 9", true, x.isGone(0));
        CHECK.equal("its place is free", 6, x.room());
        CHECK.equal("a tamer quote stays", 4, x.wildnessOf(3));
        CHECK.equal("a dash stays with 7", 7, x.hungerOf(1));
        x.passDays(2);
        CHECK.equal("a dash is gone with 9", true, x.isGone(1));

        // the hungry quote leaves the other one alone: at once if it comes ahead, else in the next day
        String quotes = "stray a is quote on 0; stray b is quote on 0; house a; house b; feed ";
        MarkShelter y = Check.taught(quotes + "b;");
        y.passDays(4);
        CHECK.equal("both are there", 2, y.here());
        y.passDays(1);
        CHECK.equal("both are gone", 2, y.gone());
        MarkShelter z = Check.taught(quotes + "a;");
        z.passDays(5);
        CHECK.equal("b is gone", true, z.isGone(1));
        CHECK.equal("a was looked at ahead", true, z.isHere(0));
        z.passDays(1);
        CHECK.equal("a is gone", true, z.isGone(0));
    }
}
