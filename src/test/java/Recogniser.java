import java.util.ArrayList;
import java.util.HashMap;
import java.util.HashSet;
import java.util.List;
import java.util.Map;
import java.util.Set;

/**
 * Says how far a row of words is the beginning of a book, by the grammar of the document alone (after
 * Earley), with a copy of its lines for each depth: slow, but it knows nothing of how the class reads.
 */
final class Recogniser {
    private static final Map<String, List<String[]>> GRAMMAR = new HashMap<>();

    static {
        rule("book", "head lines");
        rule("head", "first second");
        rule("first", "");
        rule("first", "houses NUMBER ;");
        rule("second", "");
        rule("second", "coins NUMBER ;");
        rule("lines", "");
        rule("lines", "lines line");
        rule("line", "stray NAME is kind on NUMBER ;");
        rule("line", "verb NAME ;");
        rule("line", "verb NAME when test0 ;");
        for (String kind : "comma dash stop quote".split(" ")) {
            rule("kind", kind);
        }
        for (String verb : "feed train house free offer".split(" ")) {
            rule("verb", verb);
        }
        for (String relation : "< > = <= >=".split(" ")) {
            rule("relation", relation);
        }
        for (int depth = 0; depth <= 8; depth++) {
            rulesOfDepth(depth);
        }
    }

    private static void rulesOfDepth(int depth) {
        String d = String.valueOf(depth);
        String next = String.valueOf(depth + 1);
        rule("test" + d, "both" + d);
        rule("test" + d, "test" + d + " or both" + d);
        rule("both" + d, "single" + d);
        rule("both" + d, "both" + d + " and single" + d);
        rule("single" + d, "housed NAME");
        rule("single" + d, "paired NAME");
        rule("single" + d, "ready NAME");
        rule("single" + d, "sum" + d + " relation sum" + d);
        rule("sum" + d, "product" + d);
        rule("sum" + d, "sum" + d + " + product" + d);
        rule("sum" + d, "sum" + d + " - product" + d);
        rule("product" + d, "value" + d);
        rule("product" + d, "product" + d + " * value" + d);
        rule("product" + d, "product" + d + " / value" + d);
        for (String value : "NUMBER|day|here|coins|room|hunger of NAME|wild of NAME".split("\\|")) {
            rule("value" + d, value);
        }
        if (depth < 8) {
            rule("single" + d, "not single" + next);
            rule("single" + d, "[ test" + next + " ]");
            rule("value" + d, "- value" + next);
            rule("value" + d, "( sum" + next + " )");
            rule("value" + d, "min ( sum" + next + " , sum" + next + " )");
            rule("value" + d, "max ( sum" + next + " , sum" + next + " )");
        } else {
            // the document names the ( as the token that is too deep, not the min or max ahead of it
            rule("value" + d, "min TOODEEP");
            rule("value" + d, "max TOODEEP");
        }
    }

    private static void rule(String left, String right) {
        GRAMMAR.computeIfAbsent(left, k -> new ArrayList<>()).add(right.isEmpty() ? new String[0] : right.split(" "));
    }

    private record Item(String left, String[] right, int dot, int from) {
    }

    /** The number of the first word that is wrong; the count of words if more are wanted; -1 if all is well. */
    static int firstWrong(List<String> words) {
        List<Set<Item>> chart = new ArrayList<>();
        Set<Item> set = new HashSet<>();
        for (String[] right : GRAMMAR.get("book")) {
            set.add(new Item("book", right, 0, 0));
        }
        for (int i = 0; i <= words.size(); i++) {
            chart.add(set);
            Set<Item> next = new HashSet<>();
            boolean whole = complete(chart, i, i < words.size() ? words.get(i) : "END", next);
            if (i == words.size()) {
                return whole ? -1 : i;
            }
            if (next.isEmpty()) {
                return i;
            }
            set = next;
        }
        return -1;
    }

    private static boolean complete(List<Set<Item>> chart, int i, String word, Set<Item> next) {
        Set<Item> set = chart.get(i);
        List<Item> agenda = new ArrayList<>(set);
        boolean whole = false;
        for (int k = 0; k < agenda.size(); k++) {
            Item item = agenda.get(k);
            List<Item> found = new ArrayList<>();
            if (item.dot == item.right.length) {
                whole |= item.left.equals("book");
                for (Item waiting : new ArrayList<>(chart.get(item.from))) {
                    if (waiting.dot < waiting.right.length && waiting.right[waiting.dot].equals(item.left)) {
                        found.add(new Item(waiting.left, waiting.right, waiting.dot + 1, waiting.from));
                    }
                }
            } else if (GRAMMAR.containsKey(item.right[item.dot])) {
                for (String[] right : GRAMMAR.get(item.right[item.dot])) {
                    found.add(new Item(item.right[item.dot], right, 0, i));
                    boolean empty = item.right[item.dot].matches("first|second|lines|head");
                    if (empty) {
                        found.add(new Item(item.left, item.right, item.dot + 1, item.from));
                    }
                }
            } else if (item.right[item.dot].equals(word)) {
                next.add(new Item(item.left, item.right, item.dot + 1, item.from));
            }
            for (Item one : found) {
                if (set.add(one)) {
                    agenda.add(one);
                }
            }
        }
        return whole;
    }
}
