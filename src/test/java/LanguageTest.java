/** Promises 2 to 5: the tape, teach and errorAt, and the language. */
public final class LanguageTest {
    private static final Check CHECK = new Check();
    private static final String A = "stray a is comma on 0; ";

    public static void main(String[] args) {
        feeds();
        trims();
        teachesAnew();
        readsOneBookAfterTheOther();
        tellsWhereTheErrorIs();
        readsTokens();
        readsBooks();
        readsTests();
        keepsToTheDepth();
        countsTokens();
        looksAtNames();
        looksAtNumbers();
        tellsTheFirstError();
        CHECK.end();
    }

    private static void feeds() {
        MarkShelter x = new MarkShelter();
        // "hous" "es 2" "; co" "ins " "7;  "
        CHECK.equal("2: feed", 20, x.feed(0x686f7573, 0x65732032, 0x3b20636f, 0x696e7320, 0x373b2020));
        CHECK.equal("2: teach", 0, x.teach());
        CHECK.equal("2: houses", 2, x.houses());
        CHECK.equal("2: coins", 7, x.coins());
        CHECK.equal("2: feed of low bytes", 20, x.feed(0x20202020, 0x20202020, 0x20202020, 0x20202020, 0x202020ff));
        CHECK.equal("2: a byte that is no token", 1, x.teach());
        CHECK.equal("2: its place", 19, x.errorAt());
        for (int i = 1; i <= 100; i++) {
            CHECK.equal("2: feed " + i, i * 20, x.feed(-1, -2, -3, -4, -5));
        }
        CHECK.notNow("2: feed of a full tape", () -> x.feed(0, 0, 0, 0, 0));
        CHECK.equal("2: the tape stays", 2000, x.trim(2000));
        x.trim(1981);
        CHECK.notNow("2: feed to 2001", () -> x.feed(0, 0, 0, 0, 0));
        x.trim(1980);
        CHECK.equal("2: feed to 2000", 2000, x.feed(0, 0, 0, 0, 0));
    }

    private static void trims() {
        MarkShelter x = new MarkShelter();
        CHECK.equal("3: trim of nothing", 0, x.trim(0));
        CHECK.badArgument("3: trim beyond nothing", () -> x.trim(1));
        Check.write(x, "houses 2; coins 7;??");
        CHECK.badArgument("3: trim(-1)", () -> x.trim(-1));
        CHECK.badArgument("3: trim(21)", () -> x.trim(21));
        CHECK.badArgument("3: trim(min)", () -> x.trim(Integer.MIN_VALUE));
        CHECK.badArgument("3: trim(max)", () -> x.trim(Integer.MAX_VALUE));
        CHECK.equal("3: trim(20)", 20, x.trim(20));
        CHECK.equal("3: trim(9)", 9, x.trim(9));
        CHECK.badArgument("3: trim(10) behind it", () -> x.trim(10));
        CHECK.equal("3: teach", 0, x.teach());
        CHECK.equal("3: houses", 2, x.houses());
        CHECK.equal("3: coins", 20, x.coins());
    }

    private static void teachesAnew() {
        MarkShelter x = Check.taught("houses 2; coins 9; stray a is dash on 0; train a;");
        CHECK.badArgument("4: the tape is empty", () -> x.trim(1));
        x.passDays(2);
        x.donate(5);
        Check.write(x, "houses 4; coins 1; stray b is comma on 31; ");
        CHECK.equal("4: teach", 5, x.teach());
        CHECK.badArgument("4: the tape is empty behind an error", () -> x.trim(1));
        CHECK.equal("4: houses stay", 2, x.houses());
        CHECK.equal("4: coins stay", 14, x.coins());
        CHECK.equal("4: day stays", 2, x.day());
        CHECK.equal("4: kind stays", 1, x.kindOf(0));
        CHECK.equal("4: wildness stays", 7, x.wildnessOf(0));
        x.passDays(1);
        CHECK.equal("4: orders stay", 3, x.ordersCarriedOut());
        Check.write(x, "stray b is stop on 0; stray c is quote on 1;");
        CHECK.equal("4: teach", 0, x.teach());
        CHECK.equal("4: houses", 3, x.houses());
        CHECK.equal("4: coins", 20, x.coins());
        CHECK.equal("4: day", 0, x.day());
        CHECK.equal("4: strays", 2, x.strays());
        CHECK.equal("4: ordersCarriedOut", 0, x.ordersCarriedOut());
        CHECK.equal("4: here", 1, x.here());
        CHECK.equal("4: wildness", 2, x.wildnessOf(0));
        x.passDays(1);
        CHECK.equal("4: no orders any more", 0, x.ordersCarriedOut());
        CHECK.equal("4: nothing is a book", 0, x.teach());
        CHECK.equal("4: without strays", 0, x.strays());
        forgetsTheLastBook();
        forgetsWrongBooks();
    }

    private static void forgetsTheLastBook() {
        MarkShelter x = Check.taught("stray a is dash on 0; stray b is dash on 0; house a; feed b;");
        x.passDays(3);
        CHECK.equal("4: a is in a house", true, x.isHoused(0));
        Check.write(x, "stray a is quote on 2; stray b is dash on 0;");
        CHECK.equal("4: teach", 0, x.teach());
        CHECK.equal("4: a is to come again", false, x.isHere(0));
        CHECK.equal("4: a is not gone", false, x.isGone(0));
        CHECK.equal("4: a is in no house", false, x.isHoused(0));
        CHECK.equal("4: all room is free", 6, x.room());
        CHECK.equal("4: b is as hungry as at first", 4, x.hungerOf(1));
        CHECK.equal("4: b is as wild as at first", 8, x.wildnessOf(1));
        x.passDays(2);
        CHECK.equal("4: a comes as hungry as all", 4, x.hungerOf(0));
        CHECK.equal("4: no orders any more", 0, x.ordersCarriedOut());
    }

    private static void forgetsWrongBooks() {
        MarkShelter x = Check.taught("houses 2; coins 30;");
        Check.write(x, "houses 5; coins 50; stray a is stop on 0; feed a; house a; offer a; feed b;");
        CHECK.equal("4: teach", 3, x.teach());
        Check.write(x, "stray a is stop on 0; stray b is stop on 0;");
        CHECK.equal("4: teach", 0, x.teach());
        CHECK.equal("4: houses of no wrong book", 3, x.houses());
        CHECK.equal("4: coins of no wrong book", 20, x.coins());
        CHECK.equal("4: strays of no wrong book", 2, x.strays());
        x.passDays(1);
        CHECK.equal("4: orders of no wrong book", 0, x.ordersCarriedOut());
        CHECK.equal("4: adopted by no wrong book", 0, x.adopted());
    }

    /** Twelve books with some 380 tokens of a test each, right and wrong ones. */
    private static void readsOneBookAfterTheOther() {
        MarkShelter x = new MarkShelter();
        for (int i = 0; i < 12; i++) {
            String test = "0" + times(150, "+1") + times(30, "-1") + "=" + (i % 3 == 0 ? 121 : 120);
            Check.write(x, A + "train a when " + test + "; offer " + (i % 4 == 3 ? "b;" : "a;"));
            CHECK.equal("4: teach " + i, i % 4 == 3 ? 3 : 0, x.teach());
            if (i % 4 != 3) {
                CHECK.equal("4: book " + i, i % 3 == 0 ? 0 : 1, x.passDays(1));
            }
        }
    }

    private static void tellsWhereTheErrorIs() {
        MarkShelter x = new MarkShelter();
        CHECK.equal("5: errorAt of a new object", -1, x.errorAt());
        Check.write(x, "houses 3, ");
        CHECK.equal("5: errorAt ahead of teach", -1, x.errorAt());
        CHECK.equal("5: teach", 1, x.teach());
        CHECK.equal("5: errorAt", 8, x.errorAt());
        Check.write(x, "houses 3; ");
        CHECK.equal("5: errorAt stays", 8, x.errorAt());
        CHECK.equal("5: teach", 0, x.teach());
        CHECK.equal("5: errorAt", -1, x.errorAt());
    }

    private static void readsTokens() {
        CHECK.teaches("", 0, -1);
        CHECK.teaches(" \n \n", 0, -1);
        CHECK.teaches("houses\n3\n;\n", 0, -1);
        CHECK.teaches("houses\t3;", 1, 6);
        CHECK.teaches("houses\r3;", 1, 6);
        CHECK.teaches("Houses 3;", 1, 0);
        CHECK.teaches("houses3;", 1, 0);
        CHECK.teaches("houses 3 ; \u00e9", 1, 11);
        CHECK.teaches("houses 3;coins 4;stray a is comma on 3;feed a when 3<4and 2<3or day=1;", 0, -1);
        CHECK.teaches("houses 3; \u0000", 1, 10);
        CHECK.teaches("stray abcdefghij is comma on 0;", 0, -1);
        CHECK.teaches("stray abcdefghijk is comma on 0;", 1, 6);
        CHECK.teaches("stray a234567890 is comma on 0;", 0, -1);
        CHECK.teaches("stray a2345678901 is comma on 0;", 1, 6);
        CHECK.teaches("stray 1a is comma on 0;", 1, 6);
        CHECK.teaches("stray a is comma on0;", 1, 17);
        CHECK.teaches("stray a is comma on 0000001;", 1, 20);
        CHECK.teaches("stray a is comma on 000001;", 0, -1);
        for (String keyword : ("houses coins stray is comma dash stop quote on feed train house free offer when "
                + "day here room hunger wild of housed paired ready not and or min max").split(" ")) {
            CHECK.teaches("stray " + keyword + " is comma on 0;", 1, 6);
            CHECK.teaches("stray " + keyword + "s1 is comma on 0;", 0, -1);
        }
    }

    private static void readsBooks() {
        CHECK.teaches("houses", 1, 6);
        CHECK.teaches("houses  ", 1, 8);
        CHECK.teaches("houses 3", 1, 8);
        CHECK.teaches("houses 3;;", 1, 9);
        CHECK.teaches("coins 3; coins 3;", 1, 9);
        CHECK.teaches("coins 3; houses 3;", 1, 9);
        CHECK.teaches(A + "coins 3;", 1, A.length());
        CHECK.teaches(";", 1, 0);
        CHECK.teaches("a", 1, 0);
        CHECK.teaches("stray a are comma on 0;", 1, 8);
        CHECK.teaches("stray a is , on 0;", 1, 11);
        CHECK.teaches("stray a is comma at 0;", 1, 17);
        CHECK.teaches("stray a is comma on x;", 1, 20);
        CHECK.teaches("stray a is comma on 0", 1, 21);
        for (String verb : "feed train house free offer".split(" ")) {
            CHECK.teaches(A + verb + " a;", 0, -1);
            CHECK.teaches(A + verb + " a when 1=1;", 0, -1);
            CHECK.teaches(A + verb + " 1;", 1, A.length() + verb.length() + 1);
            CHECK.teaches(A + verb + " a if 1=1;", 1, A.length() + verb.length() + 3);
        }
        CHECK.teaches(A + "offer a when;", 1, A.length() + 12);
    }

    private static void test(String test, int error, String upToTheError) {
        String order = A + "feed a when ";
        int position = error == 0 ? -1 : order.length() + upToTheError.length();
        CHECK.teaches(order + test + ";", error, position);
    }

    private static void readsTests() {
        for (String good : ("1=1|1<=1|1>=1|1<1|1>1|housed a|paired a|ready a|not ready a|[ready a]|day=here|"
                + "coins=room|hunger of a=wild of a|min(1,2)=max(3,day)|-1=- -1|(1)=1|1+2-3*4/5=1|"
                + "1=1 and 2=2 or 3=3|not not [1=1 or [2=2]]|1<-1").split("\\|")) {
            test(good, 0, "");
        }
        test("1", 1, "1");
        test("a=1", 1, "");
        test("1==1", 1, "1=");
        test("1=<1", 1, "1=");
        test("1< =1", 1, "1< ");
        test("1<2<3", 1, "1<2");
        test("(1=1)", 1, "(1");
        test("[1]=1", 1, "[1");
        test("[1=1]=1", 1, "[1=1]");
        test("[1=1)", 1, "[1=1");
        test("(1]=1", 1, "(1");
        test("ready a=1", 1, "ready a");
        test("ready 1", 1, "ready ");
        test("hunger a=1", 1, "hunger ");
        test("hunger of=1", 1, "hunger of");
        test("hunger of day=1", 1, "hunger of ");
        test("min 1=1", 1, "min ");
        test("min-1=1", 1, "min");
        test("max<1", 1, "max");
        test("min(1)=1", 1, "min(1");
        test("min(1,2,3)=1", 1, "min(1,2");
        test("min(1,2=1", 1, "min(1,2");
        test("1=+1", 1, "1=");
        test("1=not 1", 1, "1=");
        test("1 1=1", 1, "1 ");
        test("and 1=1", 1, "");
        test("1=1 and", 1, "1=1 and");
        test("not", 1, "not");
        test("not 1", 1, "not 1");
        test("1=housed a", 1, "1=");
    }

    private static String times(int count, String text) {
        return text.repeat(count);
    }

    private static void keepsToTheDepth() {
        test(times(8, "(") + "1" + times(8, ")") + "=1", 0, "");
        test(times(9, "(") + "1" + times(9, ")") + "=1", 1, times(8, "("));
        test(times(8, "[") + "1=1" + times(8, "]"), 0, "");
        test(times(9, "[") + "1=1" + times(9, "]"), 1, times(8, "["));
        test(times(8, "-") + "1=1", 0, "");
        test(times(9, "-") + "1=1", 1, times(8, "-"));
        test(times(8, "not ") + "1=1", 0, "");
        test(times(9, "not ") + "1=1", 1, times(8, "not "));
        test(times(8, "min(") + "1" + times(8, ",1)") + "=1", 0, "");
        test(times(9, "max(") + "1" + times(9, ",1)") + "=1", 1, times(8, "max(") + "max");
        test("min(1,(((((((1))))))))=1", 0, "");
        test("min(1,((((((((1)))))))))=1", 1, "min(1,(((((((");
        test("not[-(not", 1, "not[-(");
        test("not[not[-(-(1))=1]]", 0, "");
        test("not[not[-(-(1))=-(-(1))]]", 0, "");
        test("not[not[-(-(-1))=1]]", 1, "not[not[-(-(");
        test("not[not[-(-((1)))=1]]", 1, "not[not[-(-(");
        test("not[not[-(-(1))=-(-((1)))]]", 1, "not[not[-(-(1))=-(-(");
        test(times(8, "-") + "1+" + times(8, "(") + "1" + times(8, ")") + "=1", 0, "");
        test("1=1" + times(9, "-1"), 0, "");
        test("(1)=(1)+(1)-(1)*(1)/(1)-(1)-(1)-(1)-(1)", 0, "");
        test(times(8, "not ") + "1=1 and " + times(8, "(") + "1" + times(8, ")") + "=1", 0, "");
        test("not 1=" + times(7, "(") + "1" + times(7, ")"), 0, "");
        test("not 1=" + times(8, "(") + "1" + times(8, ")"), 1, "not 1=" + times(7, "("));
        test(times(8, "[") + "(1)=1", 1, times(8, "["));
        test(times(8, "[") + "not 1=1", 1, times(8, "["));
        test(times(8, "[") + "-1=1", 1, times(8, "["));
        test(times(8, "[") + "ready a" + times(8, "]"), 0, "");
    }

    private static void countsTokens() {
        String start = A + "feed a when ";
        String sum = times(193, "+1");
        CHECK.teaches(start + "1=1" + sum + ";", 0, -1);
        CHECK.teaches(start + "1=1" + sum + "; \n", 0, -1);
        String longer = start + "-1=1" + sum;
        CHECK.teaches(longer + ";", 1, longer.length());
        String whole = start + "1=1" + sum + ";";
        CHECK.teaches(whole + "  feed a;", 1, whole.length() + 2);
        CHECK.teaches(whole + "?", 1, whole.length());
        CHECK.teaches(start + "1=1" + sum, 1, whole.length() - 1);
        CHECK.teaches(start + "--1=1" + times(400, "+1"), 1, start.length() + 5 + 385);
    }

    private static void looksAtNames() {
        CHECK.teaches(A + "stray a is stop on 0;", 2, A.length() + 6);
        CHECK.teaches(A + "stray ab is stop on 0; stray a1 is stop on 0; stray b is stop on 0;", 0, -1);
        CHECK.teaches("feed a; " + A, 3, 5);
        CHECK.teaches(A + "offer b;", 3, A.length() + 6);
        test("hunger of b=1", 3, "hunger of ");
        test("wild of b=1", 3, "wild of ");
        test("1=1 or housed b", 3, "1=1 or housed ");
        test("paired b", 3, "paired ");
        test("ready b", 3, "ready ");
        StringBuilder twelve = new StringBuilder();
        for (int i = 0; i < 12; i++) {
            twelve.append("stray s").append(i).append(" is stop on 0; ");
        }
        CHECK.teaches(twelve.toString(), 0, -1);
        CHECK.teaches(twelve + "stray s12 is stop on 0;", 4, twelve.length() + 6);
        CHECK.teaches(twelve + "stray s12 is stop on 99;", 4, twelve.length() + 6);
        CHECK.teaches(twelve + "stray s11 is stop on 0;", 2, twelve.length() + 6);
        String sixteen = A + times(16, "feed a;");
        CHECK.teaches(sixteen, 0, -1);
        CHECK.teaches(sixteen + "feed a;", 4, sixteen.length());
        CHECK.teaches(sixteen + "feed b;", 4, sixteen.length());
        CHECK.teaches(sixteen + "stray b is stop on 0; free b;", 4, sixteen.length() + 22);
    }

    private static void looksAtNumbers() {
        for (int n = 1; n <= 6; n++) {
            CHECK.teaches("houses " + n + ";", 0, -1);
        }
        CHECK.teaches("houses 0;", 5, 7);
        CHECK.teaches("houses 7;", 5, 7);
        CHECK.teaches("houses 999999;", 5, 7);
        CHECK.teaches("coins 0;", 0, -1);
        CHECK.teaches("coins 99;", 0, -1);
        CHECK.teaches("houses 1; coins 100;", 5, 16);
        CHECK.teaches("stray a is comma on 30;", 0, -1);
        CHECK.teaches("stray a is comma on 31;", 5, 20);
        test("coins=999999", 0, "");
    }

    private static void tellsTheFirstError() {
        CHECK.teaches("houses 9; stray", 1, 15);
        CHECK.teaches("houses 9; feed b;", 5, 7);
        CHECK.teaches("feed b; stray c is comma on 31;", 3, 5);
        CHECK.teaches(A + "stray a is comma on 31; feed x;", 2, A.length() + 6);
        CHECK.teaches("houses 9; coins 200; feed b; houses 3;", 1, 29);
    }
}
