import java.util.ArrayList;
import java.util.List;
import java.util.Random;

/** Random books, right and wrong ones, and random calls on fresh objects, compared with the model. */
public final class ModelTest {
    private static final Check CHECK = new Check();
    private static final Random RANDOM = new Random(20261119);
    private static final String[] VERBS = {"feed", "train", "house", "free", "offer"};
    private static int adoptions = 0;
    private static int bestFound = 0;
    private static final int[] ERRORS = new int[6];

    public static void main(String[] args) {
        int runs = args.length > 0 ? Integer.parseInt(args[0]) : 1500;
        for (int run = 0; run < runs; run++) {
            compareRun(run);
        }
        System.out.println(adoptions + " adopted, " + bestFound + " times one had best be fed, books without error "
            + "and with errors 1 to 5: " + java.util.Arrays.toString(ERRORS));
        CHECK.equal("every error has come", true, java.util.Arrays.stream(ERRORS).allMatch(n -> n > 0));
        CHECK.equal("some are adopted", true, adoptions > runs / 5);
        CHECK.equal("sometimes one had best be fed", true, bestFound > runs / 50);
        CHECK.end();
    }

    private static int upTo(int n) {
        return RANDOM.nextInt(n + 1);
    }

    private static boolean chance(int percent) {
        return RANDOM.nextInt(100) < percent;
    }

    private static <T> T oneOf(List<T> list) {
        return list.get(RANDOM.nextInt(list.size()));
    }

    @SafeVarargs
    private static <T> T oneOf(T... list) {
        return list[RANDOM.nextInt(list.length)];
    }

    // ---- books

    private final List<String> names = new ArrayList<>();

    private String name() {
        return names.isEmpty() || chance(1) ? "nobody" : oneOf(names);
    }

    private String value(int depth) {
        if (depth > 0 && chance(35)) {
            return switch (upTo(3)) {
                case 0 -> "- " + value(depth - 1);
                case 1 -> "(" + sum(depth - 1) + ")";
                case 2 -> "min(" + sum(depth - 1) + "," + sum(depth - 1) + ")";
                default -> "max (" + sum(depth - 1) + " , " + sum(depth - 1) + ")";
            };
        }
        return switch (upTo(8)) {
            case 0 -> "day";
            case 1 -> "here";
            case 2 -> "coins";
            case 3 -> "room";
            case 4, 5 -> "hunger of " + name();
            case 6 -> "wild of " + name();
            case 7 -> oneOf("0", "1", "65536", "999999", "00032");
            default -> String.valueOf(upTo(9));
        };
    }

    private String sum(int depth) {
        StringBuilder text = new StringBuilder(value(depth));
        while (chance(30)) {
            text.append(oneOf("+", "-", "*", "/", " - ", " + ")).append(value(depth));
        }
        return text.toString();
    }

    private String single(int depth) {
        if (depth > 0 && chance(30)) {
            return chance(50) ? "not " + single(depth - 1) : "[" + test(depth - 1) + "]";
        }
        if (chance(30)) {
            return oneOf("housed ", "paired ", "ready ") + name();
        }
        return sum(depth) + oneOf("<", ">", "=", "<=", ">=") + sum(depth);
    }

    private String test(int depth) {
        StringBuilder text = new StringBuilder(single(depth));
        while (chance(25)) {
            text.append(oneOf(" and ", " or ")).append(single(depth));
        }
        return text.toString();
    }

    private String usualOrder() {
        String name = name();
        return switch (upTo(7)) {
            case 0 -> "feed " + name + " when hunger of " + name + " > " + (3 + upTo(4));
            case 1 -> "train " + name + " when hunger of " + name + " < " + (4 + upTo(5));
            case 2 -> "house " + name;
            case 3, 4 -> "offer " + name + " when day >= " + upTo(9);
            case 5 -> "free " + name + " when room = 0";
            case 6 -> "feed " + name + " when day < " + upTo(6);
            default -> "train " + name + " when wild of " + name + " > 2";
        };
    }

    /** Orders that often lead to an adoption. */
    private static String tending(String name) {
        return "offer " + name + "; house " + name + " when day >= " + upTo(4) + "; feed " + name + " when hunger of "
            + name + " > " + (3 + upTo(3)) + "; train " + name + " when wild of " + name + " > " + upTo(4) + "; ";
    }

    private String book() {
        names.clear();
        StringBuilder text = new StringBuilder();
        if (chance(60)) {
            text.append("houses ").append(chance(3) ? oneOf("0", "7", "77") : 1 + upTo(5)).append("; ");
        }
        if (chance(60)) {
            text.append("coins ").append(chance(3) ? 100 : upTo(chance(50) ? 99 : 4)).append(";");
        }
        int strays = chance(3) ? 13 : upTo(12);
        int orders = chance(3) ? 17 : upTo(16);
        int usual = upTo(100);
        boolean tended = chance(50);
        while (strays + orders > 0) {
            if (strays > 0 && (names.isEmpty() && chance(98) || chance(60)) || orders == 0) {
                String name = chance(1) && !names.isEmpty() ? name() : "s" + names.size() + oneOf("", "x", "12345678");
                names.add(name);
                text.append("stray ").append(name).append(" is ").append(oneOf("comma", "dash", "stop", "quote"))
                    .append(" on ").append(chance(1) ? 31 : chance(60) ? 0 : upTo(chance(70) ? 4 : 30)).append(";");
                strays--;
                if (tended && orders >= 4) {
                    text.append(tending(name));
                    orders -= 4;
                }
            } else {
                boolean deep = chance(10);
                text.append(chance(usual) ? usualOrder() : chance(20) ? oneOf(VERBS) + " " + name()
                    : oneOf(VERBS) + " " + name() + " when " + test(deep ? 9 : 2)).append(";");
                orders--;
            }
            text.append(oneOf("", " ", "\n"));
        }
        return text.toString();
    }

    private static String spoiled(String book) {
        StringBuilder text = new StringBuilder(book);
        for (int i = upTo(2); i >= 0; i--) {
            int at = upTo(text.length());
            switch (upTo(3)) {
                case 0 -> text.setLength(at);
                case 1 -> text.insert(at, oneOf(" ", "(", ")", "[", "]", "-", " not ", ";", "and", "<", "9", "x",
                    "((((((((", "--------", "not not not not not not not not ", "\t", "\u00ff", " min "));
                case 2 -> text.delete(at, Math.min(text.length(), at + 1 + upTo(8)));
                default -> text.insert(at, text.substring(at, Math.min(text.length(), at + upTo(40))));
            }
        }
        return text.toString();
    }

    // ---- runs

    private static void compareRun(int run) {
        MarkShelter x = new MarkShelter();
        Model m = new Model();
        ModelTest books = new ModelTest();
        int left = 512;
        for (int lesson = upTo(2); lesson >= 0 && left > 150; lesson--) {
            String text = books.book();
            text = chance(25) ? spoiled(text) : text;
            text = text.length() > 2000 ? text.substring(0, 2000) : text;
            Check.write(x, text);
            int error = m.teach(text);
            ERRORS[error]++;
            CHECK.equal("run " + run + " teach of " + text, error, x.teach());
            CHECK.equal("run " + run + " errorAt of " + text, m.errorAt, x.errorAt());
            left -= 3 + (text.length() + 19) / 20;
            for (int i = upTo(5); i >= 0 && left > 120; i--) {
                left -= look(run, x, m);
                left -= act(run, x, m);
            }
        }
        look(run, x, m);
        adoptions += x.adopted();
    }

    private static int act(int run, MarkShelter x, Model m) {
        int calls = 0;
        for (int i = upTo(6); i >= 0; i--) {
            calls++;
            int stray = chance(95) ? upTo(m.marks.size()) : upTo(14) - 1;
            if (chance(15)) {
                m.coins += i + 1;
                CHECK.equal("donate", m.coins, x.donate(i + 1));
            } else {
                byHand(run, x, m, stray);
            }
        }
        int days = 1 + upTo(chance(20) ? 29 : 4);
        int before = m.count("adopted");
        m.pass(days);
        CHECK.equal("run " + run + " passDays", m.count("adopted") - before, x.passDays(days));
        return calls + 1;
    }

    private static void byHand(int run, MarkShelter x, Model m, int stray) {
        int verb = upTo(4);
        Check.Call call = switch (verb) {
            case 0 -> () -> x.feedStray(stray);
            case 1 -> () -> x.train(stray);
            case 2 -> () -> x.house(stray);
            case 3 -> () -> x.free(stray);
            default -> () -> x.offer(stray);
        };
        String what = "run " + run + " " + VERBS[verb] + " by hand of " + stray;
        if (stray < 0 || stray >= m.marks.size()) {
            CHECK.noStray(what, call);
            return;
        }
        Model.Mark mark = m.marks.get(stray);
        int house = mark.house;
        int before = m.count("adopted");
        if (!m.does(VERBS[verb], mark)) {
            CHECK.notNow(what, call);
            return;
        }
        int[] due = {mark.hunger, mark.wild, mark.house, house, m.count("adopted") - before};
        CHECK.equal(what, due[verb], call.answer());
    }

    private static int look(int run, MarkShelter x, Model m) {
        String when = "run " + run + " day " + m.day + " ";
        int days = 1 + upTo(29);
        Model then = m.copy();
        then.pass(days);
        CHECK.equal(when + "adoptedAfter " + days, then.count("adopted"), x.adoptedAfter(days));
        CHECK.equal(when + "goneAfter " + days, then.count("gone"), x.goneAfter(days));
        int best = m.bestToFeed();
        bestFound += best >= 0 ? 1 : 0;
        CHECK.equal(when + "bestToFeed", best, x.bestToFeed());
        CHECK.equal(when + "hungriest", m.hungriest(), x.hungriest());
        CHECK.equal(when + "meanHunger", m.meanHunger(), x.meanHunger());
        if (!m.marks.isEmpty()) {
            int stray = upTo(m.marks.size() - 1);
            CHECK.equal(when + "daysUntilGone " + stray, m.daysUntil(stray, "gone"), x.daysUntilGone(stray));
            CHECK.equal(when + "daysUntilAdopted " + stray, m.daysUntil(stray, "adopted"), x.daysUntilAdopted(stray));
        }
        CHECK.equal(when + "digest", digest(m, best), x.digest());
        return 8;
    }

    private static long digest(Model m, int best) {
        List<Integer> row = new ArrayList<>(List.of(m.marks.size(), m.houses, m.coins, m.day, m.carried,
            m.count("here"), m.count("adopted"), m.count("gone"), m.room(), best));
        for (int i = 0; i < m.marks.size(); i++) {
            Model.Mark mark = m.marks.get(i);
            boolean here = mark.state.equals("here");
            row.addAll(List.of(m.kind(i), mark.day, here ? 1 : 0, mark.state.equals("adopted") ? 1 : 0,
                mark.state.equals("gone") ? 1 : 0, here ? mark.hunger : -1, here ? mark.wild : -1, mark.house,
                m.paired(mark) ? 1 : 0, m.ready(mark) ? 1 : 0));
        }
        for (int h = 0; h < m.houses; h++) {
            row.add(m.inHouse(h));
        }
        long d = 1031;
        for (int number : row) {
            d = d * 31 + number;
        }
        return d;
    }
}
