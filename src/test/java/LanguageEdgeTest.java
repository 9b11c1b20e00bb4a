import java.util.ArrayList;
import java.util.List;

/** The edges of the language: the tape, the tokens, the depth, 400 tokens, and errors beside each other. */
public final class LanguageEdgeTest {
    private static final Check CHECK = new Check();
    private static final String A = "stray a is comma on 0; ";
    private static final String[] VERBS = {"feed", "train", "house", "free", "offer"};
    private static final String[][] VALUES = {{"(", ")"}, {"-", ""}, {"min(", ",1)"}, {"max(1,", ")"}};
    private static final String[][] TESTS = {{"not ", ""}, {"[", "]"}};

    public static void main(String[] args) {
        readsAWholeTape();
        findsErrorsAtTheEndOfAWholeTape();
        putsEachByteInItsPlace();
        feedsBehindWhatIsKept();
        emptiesTheTape();
        readsEveryByte();
        readsLongWords();
        tellsNamesApart();
        tellsShortNamesApart();
        readsLongNumbers();
        readsTheLongestToken();
        readsTokensThatTouch();
        nestsEightDeep();
        nestsEightDeepInEachPlace();
        leavesTheDepthAgain();
        readsFourHundredTokens();
        findsTheFourHundredAndFirst();
        countsTokensOfManyOrders();
        endsBehindALineOnly();
        readsBooksWithoutParts();
        findsNamesToldTwice();
        findsNamesNotTold();
        countsStraysAndOrders();
        looksAtNumbers();
        tellsOneOfSeveralErrors();
        tellsErrorOneAheadOfAll();
        CHECK.end();
    }

    private static void order(String test, int error, int at) {
        String start = A + "feed a when ";
        CHECK.teaches(start + test + ";", error, error == 0 ? -1 : start.length() + at);
    }

    private static String blanksBetween(String first, String last, int length) {
        return first + " ".repeat(length - first.length() - last.length()) + last;
    }

    // ---- the tape

    private static void readsAWholeTape() {
        MarkShelter x = new MarkShelter();
        Check.write(x, blanksBetween("houses 2;", "coins 7;", 2000));
        CHECK.equal("2000 bytes", 2000, x.trim(2000));
        CHECK.equal("a book of 2000 bytes", 0, x.teach());
        CHECK.equal("its houses", 2, x.houses());
        CHECK.equal("its coins", 7, x.coins());
        CHECK.teaches(blanksBetween("", "", 2000), 0, -1);
        CHECK.teaches("\n".repeat(2000), 0, -1);
    }

    private static void findsErrorsAtTheEndOfAWholeTape() {
        CHECK.teaches(blanksBetween("houses 2;", "coins 7", 2000), 1, 2000);
        CHECK.teaches(blanksBetween("houses 2;", "coins 7", 1999), 1, 1999);
        CHECK.teaches(blanksBetween("houses 2;", "coins 7 ", 2000), 1, 2000);
        CHECK.teaches(blanksBetween("houses 2;", "?", 2000), 1, 1999);
        CHECK.teaches(blanksBetween("houses 2;", "a", 2000), 1, 1999);
        CHECK.teaches(blanksBetween("houses 2;", ";", 2000), 1, 1999);
        CHECK.teaches(blanksBetween("houses 2;", "coins 100;", 2000), 5, 1996);
        CHECK.teaches("x".repeat(2000), 1, 0);
        CHECK.teaches(blanksBetween("houses", "3".repeat(1900), 2000), 1, 100);
        CHECK.teaches(blanksBetween("stray", "s".repeat(1900), 2000), 1, 100);
    }

    private static void putsEachByteInItsPlace() {
        for (int place = 0; place < 20; place++) {
            for (int value : new int[] {0, 1, 127, 128, 255}) {
                int[] row = {0x20202020, 0x20202020, 0x20202020, 0x20202020, 0x20202020};
                int shift = 24 - place % 4 * 8;
                row[place / 4] = row[place / 4] & ~(255 << shift) | value << shift;
                MarkShelter x = new MarkShelter();
                x.feed(row[0], row[1], row[2], row[3], row[4]);
                CHECK.equal("byte " + value + " in place " + place, 1, x.teach());
                CHECK.equal("byte " + value + " is in place " + place, place, x.errorAt());
            }
        }
        CHECK.teaches("stray abcdefghij is quote on 29;feed abcdefghij;", 0, -1);
        CHECK.teaches("stray jihgfedcba is quote on 29;feed abcdefghij;", 3, 37);
    }

    private static void feedsBehindWhatIsKept() {
        MarkShelter x = new MarkShelter();
        Check.write(x, "houses 2;nonsense to cut off");
        CHECK.equal("3: all bytes", 28, x.trim(28));
        CHECK.badArgument("3: one more", () -> x.trim(29));
        CHECK.equal("3: nine bytes", 9, x.trim(9));
        CHECK.equal("3: nine again", 9, x.trim(9));
        CHECK.equal("2: behind them", 29, x.feed(0x636f696e, 0x7320373b, 0x20202020, 0x20202020, 0x20202020));
        CHECK.equal("3: they are kept", 0, x.teach());
        CHECK.equal("3: houses", 2, x.houses());
        CHECK.equal("2: coins", 7, x.coins());
        Check.write(x, "nonsense");
        CHECK.equal("3: none is kept", 0, x.trim(0));
        CHECK.equal("3: the empty tape", 0, x.teach());
    }

    private static void emptiesTheTape() {
        MarkShelter x = new MarkShelter();
        Check.write(x, "houses 2; coins 7;  ");
        x.teach();
        CHECK.equal("4: empty behind a book", 20, x.feed(-1, -1, -1, -1, -1));
        CHECK.equal("4: an error", 1, x.teach());
        CHECK.equal("4: houses stay", 2, x.houses());
        CHECK.equal("4: empty behind an error", 20, x.feed(0x20202020, 0x20202020, 0x20202020, 0x20202020, 0x20202020));
        CHECK.equal("5: the error stays till teach", 0, x.errorAt());
        CHECK.equal("4: blanks are a book", 0, x.teach());
        CHECK.equal("5: no error any more", -1, x.errorAt());
        CHECK.equal("4: without houses", 3, x.houses());
        CHECK.equal("4: without coins", 20, x.coins());
    }

    // ---- tokens

    private static void readsEveryByte() {
        for (int value = 0; value < 256; value++) {
            String sign = String.valueOf((char) value);
            boolean blank = value == 32 || value == 10;
            boolean digit = value >= '0' && value <= '9';
            boolean joins = digit || value >= 'a' && value <= 'z';
            CHECK.teaches(sign, blank ? 0 : 1, blank ? -1 : 0);
            CHECK.teaches("houses" + sign + "3;", blank ? 0 : 1, blank ? -1 : joins ? 0 : 6);
            CHECK.teaches("houses 3" + sign + ";", blank ? 0 : digit ? 5 : 1,
                blank ? -1 : digit ? 7 : value == ';' ? 9 : 8);
            CHECK.teaches("houses 3;" + sign, blank ? 0 : 1, blank ? -1 : 9);
            CHECK.teaches("stray a" + sign + " is stop on 0;", blank || joins ? 0 : 1, blank || joins ? -1 : 7);
        }
    }

    private static void readsLongWords() {
        for (String first : new String[] {"a", "z", "stray", "and"}) {
            String ten = first + "0123456789".substring(first.length());
            CHECK.teaches("stray " + ten + " is stop on 0; house " + ten + " when housed " + ten + ";", 0, -1);
            CHECK.teaches("stray " + ten + "x is stop on 0;", 1, 6);
            CHECK.teaches("stray " + ten + "0 is stop on 0;", 1, 6);
            CHECK.teaches(A + "feed " + ten + "0;", 1, A.length() + 5);
            CHECK.teaches(A + "feed a when ready " + ten + "0;", 1, A.length() + 18);
            CHECK.teaches(ten + "x", 1, 0);
        }
        CHECK.teaches("houses3houses", 1, 0);
        CHECK.teaches("stray a isiscommas", 1, 8);
        CHECK.teaches("stray a is commacommac on 0;", 1, 11);
    }

    private static void tellsNamesApart() {
        String[] names = {"a", "aa", "a0", "a1", "b", "a0a", "aa0", "aaaaaaaaaa", "aaaaaaaaab", "baaaaaaaaa", "a000000000",
            "z999999999"};
        StringBuilder strays = new StringBuilder();
        for (String name : names) {
            strays.append("stray ").append(name).append(" is dash on 0;");
        }
        for (int i = 0; i < names.length; i++) {
            MarkShelter x = Check.taught(strays + "feed " + names[i] + ";");
            x.passDays(1);
            for (int k = 0; k < names.length; k++) {
                CHECK.equal(names[i] + " is not " + names[k], i == k ? 2 : 5, x.hungerOf(k));
            }
        }
        for (String other : "c|ab|a2|b0|a00|aaa|aaaaaaaaac|aaaaaaaaaz|aaaaaaaaa|aaaaaaaaba|z99999999|a00000000|o".split("\\|")) {
            CHECK.teaches(strays + "feed " + other + ";", 3, strays.length() + 5);
        }
    }

    /** Twelve names of two signs, with each name of two signs: it is one of them or not told. */
    private static void tellsShortNamesApart() {
        String signs = "abcdefghijklmnopqrstuvwxyz0123456789";
        String told = "aaazama0a1a9z0z9zzmamzm0";
        StringBuilder strays = new StringBuilder();
        for (int i = 0; i < told.length(); i += 2) {
            strays.append("stray ").append(told, i, i + 2).append(" is dash on 0;");
        }
        for (int i = 0; i < 26; i++) {
            for (int k = 0; k < 36; k++) {
                String name = signs.substring(i, i + 1) + signs.charAt(k);
                boolean known = strays.indexOf("stray " + name + " ") >= 0;
                boolean keyword = name.matches("is|on|of|or");
                int error = keyword ? 1 : known ? 0 : 3;
                CHECK.teaches(strays + "feed " + name + ";", error, error == 0 ? -1 : strays.length() + 5);
            }
        }
    }

    private static void readsLongNumbers() {
        order("coins=000020", 0, 0);
        order("coins=0000020", 1, 6);
        order("coins<999999", 0, 0);
        order("coins<1000000", 1, 6);
        order("coins<12345678901234567890", 1, 6);
        CHECK.teaches("houses 000003;", 0, -1);
        CHECK.teaches("houses 0000003;", 1, 7);
        CHECK.teaches("houses 4294967299;", 1, 7);
        CHECK.teaches("coins 0000000;", 1, 6);
        CHECK.teaches("coins 000000;", 0, -1);
        CHECK.teaches("stray a is stop on 1000000;", 1, 19);
        CHECK.teaches("stray a is stop on 000000;", 0, -1);
    }

    private static void readsTheLongestToken() {
        order("1<=1", 0, 0);
        order("1>=1", 0, 0);
        order("1 < = 1", 1, 4);
        order("1 > = 1", 1, 4);
        order("1>\n=1", 1, 3);
        order("1=<1", 1, 2);
        order("1=>1", 1, 2);
        order("1<>1", 1, 2);
        order("1<<1", 1, 2);
        order("1<==1", 1, 3);
        order("1>==1", 1, 3);
        order("1<=-1", 0, 0);
        order("1<=>1", 1, 3);
        order("housed2=1", 1, 0);
        order("notready a", 1, 0);
        order("not2=1", 1, 0);
        order("day1=1", 1, 0);
        order("1=1 and1=1", 1, 4);
        order("1=1 or1=1", 1, 4);
    }

    private static void readsTokensThatTouch() {
        order("1=1and 1=1or 1=1", 0, 0);
        order("not[1=1]and[1=1]or[not[1=2]]", 0, 0);
        order("day=here and coins=room", 0, 0);
        order("min(day,here)=max(coins,room)", 0, 0);
        order("1--1=- - -1", 0, 0);
        order("1 1=1", 1, 2);
        order("1a=1", 1, 1);
        CHECK.teaches("houses 2;coins 7;stray a is comma on 0;feed a;", 0, -1);
        CHECK.teaches("houses\n2\n;\ncoins\n7\n;\nstray\na\nis\ncomma\non\n0\n;\nfeed\na\n;\n", 0, -1);
        CHECK.teaches("houses 2;coins 7;stray a is comma on 0feed a;", 1, 38);
        CHECK.teaches("houses 2 3;", 1, 9);
    }

    // ---- depth

    private static String nest(String[] sign, int times, String inside) {
        return sign[0].repeat(times) + inside + sign[1].repeat(times);
    }

    /** Where the token stands that makes the depth greater: the ( behind a min or max. */
    private static int deepensAt(String[] sign) {
        return Math.max(0, sign[0].indexOf('('));
    }

    private static void nestsEightDeep() {
        for (String[] outer : TESTS) {
            for (String[] inner : VALUES) {
                for (int k = 0; k <= 8; k++) {
                    String good = nest(outer, k, nest(inner, 8 - k, "1") + "=1");
                    order(good, 0, 0);
                    String deep = nest(outer, k, nest(inner, 9 - k, "1") + "=1");
                    order(deep, 1, k * outer[0].length() + (8 - k) * inner[0].length() + deepensAt(inner));
                }
            }
            for (String[] inner : TESTS) {
                for (int k = 0; k <= 8; k++) {
                    order(nest(outer, k, nest(inner, 8 - k, "paired a")), 0, 0);
                    order(nest(outer, k, nest(inner, 9 - k, "paired a")), 1,
                        k * outer[0].length() + (8 - k) * inner[0].length());
                }
            }
        }
        for (String[] outer : VALUES) {
            for (String[] inner : VALUES) {
                for (int k = 0; k <= 8; k++) {
                    order(nest(outer, k, nest(inner, 8 - k, "day")) + "=1", 0, 0);
                    order(nest(outer, k, nest(inner, 9 - k, "day")) + "=1", 1,
                        k * outer[0].length() + (8 - k) * inner[0].length() + deepensAt(inner));
                }
            }
        }
    }

    private static void nestsEightDeepInEachPlace() {
        for (String ahead : "1=|1<=|1=1+|1=1-|1=1*|1=1/|1=1 and |1=1 or |1=1 and 1>|ready a or 1>=".split("\\|")) {
            for (String[] sign : VALUES) {
                String behind = ahead.endsWith(" ") ? "=1" : "";
                order(ahead + nest(sign, 8, "coins") + behind, 0, 0);
                order(ahead + nest(sign, 9, "coins") + behind, 1,
                    ahead.length() + 8 * sign[0].length() + deepensAt(sign));
            }
            for (String[] sign : TESTS) {
                String test = ahead.substring(0, ahead.lastIndexOf(' ') + 1);
                order(test + nest(sign, 8, "1=1"), 0, 0);
                order(test + nest(sign, 9, "1=1"), 1, test.length() + 8 * sign[0].length());
            }
        }
        order("min(1," + nest(VALUES[0], 7, "1") + ")=1", 0, 0);
        order("min(1," + nest(VALUES[0], 8, "1") + ")=1", 1, 6 + 7);
        order("[1=1 and " + nest(TESTS[1], 7, "1=1") + "]", 0, 0);
        order("[1=1 and " + nest(TESTS[1], 8, "1=1") + "]", 1, 9 + 7);
    }

    private static void leavesTheDepthAgain() {
        for (String[] sign : VALUES) {
            String deep = nest(sign, 8, "1");
            for (String operation : "+|-|*|/|=|<|>=".split("\\|")) {
                String test = deep + operation + deep + (operation.matches("[-+*/]") ? "=1" : "");
                order(test, 0, 0);
            }
            order(deep + "=1 and " + deep + "=1 or " + deep + "=1", 0, 0);
        }
        for (String[] sign : TESTS) {
            String deep = nest(sign, 8, "ready a");
            order(deep + " and " + deep + " or " + deep, 0, 0);
            CHECK.teaches(A + "feed a when " + deep + "; offer a when " + deep + ";", 0, -1);
        }
        // a - in front is for one value, a not for one single, and between values a - is none in front
        order("-".repeat(8) + "1*" + "-".repeat(8) + "1=1", 0, 0);
        order("not ".repeat(8) + "1=1 and " + "not ".repeat(8) + "1=1", 0, 0);
        order("(".repeat(8) + "1-1-1" + ")".repeat(8) + "=1", 0, 0);
        order("(".repeat(8) + "1-1--1" + ")".repeat(8) + "=1", 1, 12);
        order("min(" + nest(VALUES[0], 7, "1") + "," + nest(VALUES[0], 7, "1") + ")=1", 0, 0);
    }

    // ---- 400 tokens

    private static void readsFourHundredTokens() {
        String book = A + "feed a when 1=1" + "+1".repeat(193);
        CHECK.teaches(book + ";", 0, -1);
        CHECK.teaches(book + ";" + " \n".repeat(500), 0, -1);
        String start = A + "train a when 0" + "+1".repeat(190) + "=19";
        MarkShelter x = Check.taught(start + "0;feed a;");
        x.passDays(1);
        CHECK.equal("a test of all tokens holds", 2, x.ordersCarriedOut());
        MarkShelter y = Check.taught(start + "1;feed a;");
        y.passDays(1);
        CHECK.equal("a test of all tokens doesn't hold", 1, y.ordersCarriedOut());
        CHECK.teaches(start + "0;feed b;", 3, start.length() + 7);
    }

    private static void findsTheFourHundredAndFirst() {
        String book = A + "feed a when 1=1" + "+1".repeat(193);
        for (String last : new String[] {";", "?", "x", "xxxxxxxxxxx", "1", "1234567", "feed", "(", "[", "<="}) {
            CHECK.teaches(book + ";" + last, 1, book.length() + 1);
            CHECK.teaches(book + ";\n  \n" + last, 1, book.length() + 5);
        }
        CHECK.teaches(book, 1, book.length());
        CHECK.teaches(book + "  ", 1, book.length() + 2);
        CHECK.teaches(book + "+", 1, book.length() + 1);
        CHECK.teaches(book + "+1;", 1, book.length() + 1);
        CHECK.teaches(book + " ?", 1, book.length() + 1);
        CHECK.teaches(book.replace("comma", "commas") + ";;", 1, 11);
        CHECK.teaches("houses 0;" + "x ".repeat(900), 1, 9);
        CHECK.teaches(A + "feed b when 1=1" + "+1".repeat(194) + ";", 1, book.length() + 1);
    }

    /** 1 line of coins, 12 strays, 16 orders and a test: 3 + 84 + 48 + 1 + 264 tokens. */
    private static void countsTokensOfManyOrders() {
        StringBuilder book = new StringBuilder("coins 3;");
        for (int i = 0; i < 12; i++) {
            book.append("stray s").append(i).append(" is stop on 3;");
        }
        for (int i = 0; i < 15; i++) {
            book.append("free s").append(i % 12).append(";");
        }
        String last = book + "offer s11 when housed s0" + " and housed s1".repeat(86);
        CHECK.teaches(last + " and 1=1;", 0, -1);
        CHECK.teaches(last + " and 1=-1;", 1, last.length() + 9);
        CHECK.teaches(last + " and not 1=1;", 1, last.length() + 12);
    }

    // ---- the end of the tape

    private static void endsBehindALineOnly() {
        String[] tokens = ("houses 4 ; coins 5 ; stray a is comma on 3 ; stray b is quote on 0 ; feed a ; train b when not "
            + "[ housed a or paired b and ready a ] ; free a when min ( day , - 2 ) <= hunger of a + wild of b * "
            + "( here / 2 ) ; offer b when room >= max ( coins , 1 ) ;").split(" ");
        StringBuilder text = new StringBuilder();
        CHECK.teaches("", 0, -1);
        for (String token : tokens) {
            text.append(token);
            boolean whole = token.equals(";");
            CHECK.teaches(text.toString(), whole ? 0 : 1, whole ? -1 : text.length());
            text.append(' ');
            CHECK.teaches(text.toString(), whole ? 0 : 1, whole ? -1 : text.length());
            CHECK.teaches(text + "?", 1, text.length());
        }
    }

    private static void holds(String text, int houses, int coins, int strays) {
        MarkShelter x = Check.taught("houses 5; coins 55; stray y is dash on 0; stray z is dash on 0; feed z;");
        Check.write(x, text);
        CHECK.equal("teach of " + text, 0, x.teach());
        CHECK.equal("houses of " + text, houses, x.houses());
        CHECK.equal("coins of " + text, coins, x.coins());
        CHECK.equal("strays of " + text, strays, x.strays());
        CHECK.equal("room of " + text, 2 * houses, x.room());
    }

    private static void readsBooksWithoutParts() {
        holds("", 3, 20, 0);
        holds("\n", 3, 20, 0);
        holds("houses 1;", 1, 20, 0);
        holds("houses 6;", 6, 20, 0);
        holds("coins 0;", 3, 0, 0);
        holds("coins 99;", 3, 99, 0);
        holds("houses 2; coins 1;", 2, 1, 0);
        holds("houses 2;" + A, 2, 20, 1);
        holds("coins 2;" + A, 3, 2, 1);
        holds(A, 3, 20, 1);
        holds(A + "feed a;", 3, 20, 1);
        CHECK.teaches("coins 2; houses 1;", 1, 9);
        CHECK.teaches("houses 1; houses 1;", 1, 10);
        CHECK.teaches("coins 2; coins 2;", 1, 9);
        CHECK.teaches("houses;", 1, 6);
        CHECK.teaches("coins;", 1, 5);
        CHECK.teaches("houses -1;", 1, 7);
        CHECK.teaches(A + "houses 1;", 1, A.length());
    }

    // ---- errors 2 to 5

    private static String strays(int count) {
        StringBuilder text = new StringBuilder();
        for (int i = 0; i < count; i++) {
            text.append("stray s").append(i).append(" is stop on 0;");
        }
        return text.toString();
    }

    private static void findsNamesToldTwice() {
        for (int count = 1; count <= 12; count++) {
            String text = strays(count);
            for (int i = 0; i < count; i++) {
                CHECK.teaches(text + "stray s" + i + " is quote on 3;", 2, text.length() + 6);
            }
        }
        CHECK.teaches(A + "feed a; stray b is stop on 0; feed b; stray a is stop on 0;", 2, A.length() + 44);
        CHECK.teaches(A + "\n\nstray \n a is stop on 0;", 2, A.length() + 10);
    }

    private static void findsNamesNotTold() {
        for (String verb : VERBS) {
            CHECK.teaches(verb + " a;", 3, verb.length() + 1);
            CHECK.teaches(verb + " a;" + A, 3, verb.length() + 1);
            CHECK.teaches(A + verb + " b; stray b is stop on 0;", 3, A.length() + verb.length() + 1);
            CHECK.teaches(A + "stray b is stop on 0;" + verb + " b;", 0, -1);
        }
        for (String place : "hunger of N=1|1=wild of N|housed N|not paired N|[ready N]|1=1 or housed N|1=1 and ready N"
                .split("\\|")) {
            order(place.replace("N", "a"), 0, 0);
            order(place.replace("N", "b"), 3, place.indexOf('N'));
            CHECK.teaches(A + "feed a when " + place.replace("N", "b") + "; stray b is stop on 0;", 3,
                A.length() + 12 + place.indexOf('N'));
        }
    }

    private static void countsStraysAndOrders() {
        String twelve = strays(12);
        CHECK.teaches(twelve, 0, -1);
        CHECK.teaches(twelve + "feed s11 when hunger of s11 > wild of s0;", 0, -1);
        CHECK.teaches(twelve + "stray x is stop on 0;", 4, twelve.length() + 6);
        CHECK.teaches(twelve + "stray x is stop on 0; stray y is stop on 0;", 4, twelve.length() + 6);
        MarkShelter x = Check.taught(twelve);
        CHECK.equal("twelve strays", 12, x.strays());
        CHECK.equal("the last one", 2, x.kindOf(11));
        for (String verb : VERBS) {
            String sixteen = A + (verb + " a;").repeat(16);
            CHECK.teaches(sixteen, 0, -1);
            CHECK.teaches(sixteen + "stray b is dash on 0;", 0, -1);
            CHECK.teaches(sixteen + " " + verb + " a;", 4, sixteen.length() + 1);
            CHECK.teaches(sixteen + " " + verb + " a when 1=1;", 4, sixteen.length() + 1);
        }
        MarkShelter y = Check.taught("coins 99;" + A + "feed a;".repeat(16));
        y.passDays(1);
        CHECK.equal("sixteen orders", 16, y.ordersCarriedOut());
        String full = twelve + "train s0;".repeat(16);
        CHECK.teaches(full, 0, -1);
        CHECK.teaches(full + "train s0;", 4, full.length());
        CHECK.teaches(full + "stray x is stop on 0;", 4, full.length() + 6);
    }

    private static void looksAtNumbers() {
        for (int n : new int[] {0, 1, 6, 7, 8, 10, 60, 256, 257, 65537, 999999}) {
            boolean good = n >= 1 && n <= 6;
            CHECK.teaches("houses " + n + ";", good ? 0 : 5, good ? -1 : 7);
        }
        for (int n : new int[] {0, 1, 98, 99, 100, 101, 256, 65536, 999999}) {
            CHECK.teaches("coins " + n + ";", n <= 99 ? 0 : 5, n <= 99 ? -1 : 6);
            CHECK.teaches("houses 1; coins " + n + ";", n <= 99 ? 0 : 5, n <= 99 ? -1 : 16);
            order("coins<" + n, 0, 0);
        }
        for (int n : new int[] {0, 1, 29, 30, 31, 32, 256, 65536, 999999}) {
            CHECK.teaches("stray a is stop on " + n + ";", n <= 30 ? 0 : 5, n <= 30 ? -1 : 19);
            CHECK.teaches(A + "stray b is stop on " + n + ";", n <= 30 ? 0 : 5, n <= 30 ? -1 : A.length() + 19);
        }
    }

    private static void tellsOneOfSeveralErrors() {
        String twelve = strays(12);
        String sixteen = A + "feed a;".repeat(16);
        // at one token: the thirteenth stray whose name was told ahead
        CHECK.teaches(twelve + "stray s0 is stop on 0;", 2, twelve.length() + 6);
        CHECK.teaches(twelve + "stray s11 is stop on 31;", 2, twelve.length() + 6);
        // at different tokens the first one, whatever its number
        CHECK.teaches("houses 0; coins 100; feed b;", 5, 7);
        CHECK.teaches("coins 100; stray a is stop on 31;", 5, 6);
        CHECK.teaches("coins 9; stray a is stop on 31; stray a is stop on 0;", 5, 28);
        CHECK.teaches(A + "stray a is stop on 31;", 2, A.length() + 6);
        CHECK.teaches(A + "stray b is stop on 31; feed c;", 5, A.length() + 19);
        CHECK.teaches(A + "feed c; stray a is stop on 31;", 3, A.length() + 5);
        CHECK.teaches(A + "feed c when ready d;", 3, A.length() + 5);
        CHECK.teaches(A + "feed a when ready d and ready c;", 3, A.length() + 18);
        CHECK.teaches(twelve + "stray x is stop on 31;", 4, twelve.length() + 6);
        CHECK.teaches(twelve + "feed x; stray x is stop on 0;", 3, twelve.length() + 5);
        CHECK.teaches(twelve + "stray x is stop on 0; stray s0 is stop on 0;", 4, twelve.length() + 6);
        CHECK.teaches(twelve + "stray x is stop on 0; feed x;", 4, twelve.length() + 6);
        CHECK.teaches(sixteen + "feed b;", 4, sixteen.length());
        CHECK.teaches(sixteen + "feed a when ready b;", 4, sixteen.length());
        CHECK.teaches(sixteen + "stray a is stop on 0; feed a;", 2, sixteen.length() + 6);
        CHECK.teaches(sixteen + "feed a; stray a is stop on 0;", 4, sixteen.length());
        CHECK.teaches(A + "feed b;" + "feed a;".repeat(16), 3, A.length() + 5);
    }

    private static void tellsErrorOneAheadOfAll() {
        String twelve = strays(12);
        for (String wrong : new String[] {"houses 0;", "coins 100;", A + A.trim(), "feed b;", A + "feed a when ready b;",
                twelve + "stray x is stop on 0;", A + "feed a;".repeat(17), "stray a is stop on 31;"}) {
            CHECK.equal("an error that is not 1 of " + wrong, true, errorOf(wrong) > 1);
            CHECK.teaches(wrong + "?", 1, wrong.length());
            CHECK.teaches(wrong + " stray", 1, wrong.length() + 6);
            CHECK.teaches(wrong + "houses 3;", 1, wrong.length());
            CHECK.teaches(wrong + "stray y is stop on 0; feed y when " + "(".repeat(9), 1, wrong.length() + 42);
            CHECK.teaches(wrong.substring(0, wrong.length() - 1), 1, wrong.length() - 1);
            CHECK.teaches(wrong + "aaaaaaaaaaa", 1, wrong.length());
        }
        CHECK.teaches("stray a is stop on 31 x;", 1, 22);
        CHECK.teaches("stray a is stop on x;", 1, 19);
    }

    private static int errorOf(String text) {
        MarkShelter x = new MarkShelter();
        Check.write(x, text);
        return x.teach();
    }
}
