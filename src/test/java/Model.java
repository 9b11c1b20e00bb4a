import java.util.ArrayList;
import java.util.Arrays;
import java.util.HashMap;
import java.util.List;
import java.util.Map;
import java.util.regex.Matcher;
import java.util.regex.Pattern;

/** The document once more, in the plainest words and with the whole Java library; slow. */
final class Model implements Cloneable {
    private static final List<String> KEYWORDS = Arrays.asList(("houses coins stray is comma dash stop quote on feed "
        + "train house free offer when day here room hunger wild of housed paired ready not and or min max").split(" "));
    private static final Pattern TOKEN = Pattern.compile("[a-z][a-z0-9]*|[0-9]+|<=|>=|[\\[\\]();,+*/<>=-]");
    private static final List<String> KINDS = Arrays.asList("comma", "dash", "stop", "quote");

    int houses = 3;
    int coins = 20;
    int day = 0;
    int carried = 0;
    int errorAt = -1;
    List<Mark> marks = new ArrayList<>();
    private List<List<String>> orders = new ArrayList<>();
    private Map<String, Integer> numbers = new HashMap<>();

    static final class Mark {
        String kind;
        int day;
        String state = "to come";
        int hunger = 4;
        int wild;
        int house = -1;

        Mark copy() {
            Mark m = new Mark();
            m.kind = kind;
            m.day = day;
            m.state = state;
            m.hunger = hunger;
            m.wild = wild;
            m.house = house;
            return m;
        }
    }

    Model copy() {
        Model m = new Model();
        m.houses = houses;
        m.coins = coins;
        m.day = day;
        m.carried = carried;
        m.orders = orders;
        m.numbers = numbers;
        for (Mark mark : marks) {
            m.marks.add(mark.copy());
        }
        return m;
    }

    // ---- the language

    /** Returns the error; the text holds the bytes as characters 0 to 255. */
    int teach(String text) {
        List<String> tokens = new ArrayList<>();
        List<String> words = new ArrayList<>();
        List<Integer> places = new ArrayList<>();
        Matcher matcher = TOKEN.matcher(text);
        int at = 0;
        int length = text.length();
        while (true) {
            while (at < length && (text.charAt(at) == ' ' || text.charAt(at) == '\n')) {
                at++;
            }
            places.add(at);
            if (at == length) {
                break;
            }
            matcher.region(at, length);
            boolean token = tokens.size() < 400 && matcher.lookingAt();
            if (!token || tooLong(matcher.group())) {
                words.add("BAD");
                break;
            }
            tokens.add(matcher.group());
            words.add(wordFor(matcher.group()));
            at = matcher.end();
        }
        int wrong = Recogniser.firstWrong(words);
        if (wrong >= 0) {
            errorAt = places.get(wrong);
            return 1;
        }
        int error = lookAt(tokens, words, places);
        if (error == 0) {
            tell(tokens);
            errorAt = -1;
        }
        return error;
    }

    private static boolean tooLong(String token) {
        return token.length() > (Character.isDigit(token.charAt(0)) ? 6 : 10);
    }

    private static String wordFor(String token) {
        if (Character.isDigit(token.charAt(0))) {
            return "NUMBER";
        }
        return Character.isLetter(token.charAt(0)) && !KEYWORDS.contains(token) ? "NAME" : token;
    }

    private int lookAt(List<String> tokens, List<String> words, List<Integer> places) {
        List<String> names = new ArrayList<>();
        int orderCount = 0;
        for (int i = 0; i < tokens.size(); i++) {
            String token = tokens.get(i);
            String word = words.get(i);
            String ahead = i == 0 ? "" : tokens.get(i - 1);
            boolean lineBegins = i == 0 || ahead.equals(";");
            int error = 0;
            if (word.equals("NAME") && ahead.equals("stray")) {
                error = names.contains(token) ? 2 : names.size() == 12 ? 4 : 0;
                names.add(token);
            } else if (word.equals("NAME")) {
                error = names.contains(token) ? 0 : 3;
            } else if (lineBegins && "feed train house free offer".contains(token)) {
                orderCount++;
                error = orderCount > 16 ? 4 : 0;
            } else if (word.equals("NUMBER")) {
                int number = Integer.parseInt(token);
                boolean coinsAtFirst = ahead.equals("coins") && (i == 1 || i == 4 && tokens.get(0).equals("houses"));
                boolean bad = ahead.equals("houses") && (number < 1 || number > 6)
                    || coinsAtFirst && number > 99 || ahead.equals("on") && number > 30;
                error = bad ? 5 : 0;
            }
            if (error > 0) {
                errorAt = places.get(i);
                return error;
            }
        }
        return 0;
    }

    private void tell(List<String> tokens) {
        houses = 3;
        coins = 20;
        day = 0;
        carried = 0;
        marks = new ArrayList<>();
        orders = new ArrayList<>();
        numbers = new HashMap<>();
        List<String> line = new ArrayList<>();
        for (String token : tokens) {
            if (!token.equals(";")) {
                line.add(token);
                continue;
            }
            if (line.get(0).equals("houses")) {
                houses = Integer.parseInt(line.get(1));
            } else if (line.get(0).equals("coins")) {
                coins = Integer.parseInt(line.get(1));
            } else if (line.get(0).equals("stray")) {
                Mark m = new Mark();
                m.kind = line.get(3);
                m.day = Integer.parseInt(line.get(5));
                m.wild = new int[] {3, 8, 2, 6}[KINDS.indexOf(m.kind)];
                m.state = m.day == 0 ? "here" : "to come";
                numbers.put(line.get(1), marks.size());
                marks.add(m);
            } else {
                orders.add(line);
            }
            line = new ArrayList<>();
        }
    }

    // ---- what tests and sums are

    private List<String> left;

    private String take() {
        return left.remove(0);
    }

    private boolean next(String... wanted) {
        return !left.isEmpty() && Arrays.asList(wanted).contains(left.get(0));
    }

    private Mark named() {
        return marks.get(numbers.get(take()));
    }

    private boolean test() {
        boolean b = both();
        while (next("or")) {
            take();
            b |= both();
        }
        return b;
    }

    private boolean both() {
        boolean b = single();
        while (next("and")) {
            take();
            b &= single();
        }
        return b;
    }

    private boolean single() {
        if (next("not", "[", "housed", "paired", "ready")) {
            switch (take()) {
                case "not": return !single();
                case "housed": return named().house >= 0;
                case "paired": return paired(named());
                case "ready": return ready(named());
                default:
                    boolean b = test();
                    take();
                    return b;
            }
        }
        int a = sum();
        String relation = take();
        int b = sum();
        return relation.contains("<") && a < b || relation.contains(">") && a > b || relation.contains("=") && a == b;
    }

    private int sum() {
        int a = product();
        while (next("+", "-")) {
            a = take().equals("+") ? a + product() : a - product();
        }
        return a;
    }

    private int product() {
        int a = value();
        while (next("*", "/")) {
            boolean times = take().equals("*");
            long b = value();
            a = (int) (times ? a * b : b == 0 ? 0 : a / b);
        }
        return a;
    }

    private int value() {
        String token = take();
        switch (token) {
            case "day": return day;
            case "here": return count("here");
            case "coins": return coins;
            case "room": return room();
            case "-": return -value();
            case "(":
                int s = sum();
                take();
                return s;
            case "min": case "max":
                take();
                int a = sum();
                take();
                int b = sum();
                take();
                return token.equals("min") ? Math.min(a, b) : Math.max(a, b);
            case "hunger": case "wild":
                take();
                Mark m = named();
                return !m.state.equals("here") ? 0 : token.equals("wild") ? m.wild : m.hunger;
            default: return Integer.parseInt(token);
        }
    }

    // ---- strays

    int count(String state) {
        return (int) marks.stream().filter(m -> m.state.equals(state)).count();
    }

    int inHouse(int house) {
        return (int) marks.stream().filter(m -> m.house == house).count();
    }

    int room() {
        int room = 0;
        for (int h = 0; h < houses; h++) {
            room += 2 - inHouse(h);
        }
        return room;
    }

    private Mark mate(Mark m) {
        for (Mark other : marks) {
            if (m.kind.equals("quote") && other != m && other.kind.equals("quote") && m.house >= 0
                    && other.house == m.house) {
                return other;
            }
        }
        return null;
    }

    boolean paired(Mark m) {
        return mate(m) != null;
    }

    private static boolean fit(Mark m) {
        return m.state.equals("here") && m.wild < 3 && m.hunger < 6;
    }

    boolean ready(Mark m) {
        switch (m.kind) {
            case "stop": return fit(m) && m.house >= 0;
            case "quote": return fit(m) && paired(m) && fit(mate(m));
            default: return fit(m);
        }
    }

    /** Does it and returns true, or does nothing. */
    boolean does(String verb, Mark m) {
        boolean here = m.state.equals("here");
        switch (verb) {
            case "feed":
                if (!here || coins == 0) {
                    return false;
                }
                coins--;
                m.hunger = m.hunger < 3 ? 0 : m.hunger - 3;
                return true;
            case "train":
                if (!here) {
                    return false;
                }
                m.wild -= m.hunger <= 5 ? 2 : 1;
                m.wild = m.wild < 0 ? 0 : m.wild;
                m.hunger = m.hunger == 9 ? 9 : m.hunger + 1;
                return true;
            case "house":
                if (!here || m.house >= 0 || room() == 0) {
                    return false;
                }
                m.house = houseFor(m);
                return true;
            case "free":
                boolean housed = m.house >= 0;
                m.house = -1;
                return housed;
            default:
                if (!ready(m)) {
                    return false;
                }
                Mark mate = mate(m);
                adopt(m);
                if (mate != null) {
                    adopt(mate);
                }
                return true;
        }
    }

    private void adopt(Mark m) {
        m.state = "adopted";
        m.house = -1;
        coins += 5;
    }

    private int houseFor(Mark m) {
        for (int h = 0; h < houses && m.kind.equals("quote"); h++) {
            int house = h;
            if (inHouse(h) == 1 && marks.stream().anyMatch(o -> o.house == house && o.kind.equals("quote"))) {
                return h;
            }
        }
        int h = 0;
        while (inHouse(h) == 2) {
            h++;
        }
        return h;
    }

    void pass(int days) {
        for (int i = 0; i < days; i++) {
            for (List<String> order : orders) {
                left = new ArrayList<>(order.subList(Math.min(3, order.size()), order.size()));
                boolean holds = left.isEmpty() || test();
                if (holds && does(order.get(0), marks.get(numbers.get(order.get(1))))) {
                    carried++;
                }
            }
            for (Mark m : marks) {
                if (m.state.equals("here")) {
                    m.hunger = Math.min(9, m.hunger + (m.kind.equals("comma") ? 2 : 1));
                    if ((m.kind.equals("dash") || m.kind.equals("stop")) && m.house < 0) {
                        m.wild = Math.min(9, m.wild + 1);
                    }
                }
            }
            for (Mark m : marks) {
                boolean lonely = m.kind.equals("quote") && !paired(m) && m.wild >= 6;
                if (m.state.equals("here") && (m.hunger == 9 || lonely)) {
                    m.state = "gone";
                    m.house = -1;
                }
            }
            day++;
            for (Mark m : marks) {
                if (m.day == day) {
                    m.state = "here";
                }
            }
        }
    }

    int daysUntil(int stray, String state) {
        Model m = copy();
        for (int days = 0; days <= 40; days++) {
            if (m.marks.get(stray).state.equals(state)) {
                return days;
            }
            m.pass(1);
        }
        return -1;
    }

    int bestToFeed() {
        Model without = copy();
        without.pass(10);
        int fewest = without.count("gone");
        int best = -1;
        for (int i = 0; i < marks.size(); i++) {
            Model m = copy();
            if (m.does("feed", m.marks.get(i))) {
                m.pass(10);
                if (m.count("gone") < fewest) {
                    fewest = m.count("gone");
                    best = i;
                }
            }
        }
        return best;
    }

    int kind(int stray) {
        return KINDS.indexOf(marks.get(stray).kind);
    }

    int hungriest() {
        int best = -1;
        for (int i = 0; i < marks.size(); i++) {
            Mark m = marks.get(i);
            if (m.state.equals("here") && (best < 0 || m.hunger > marks.get(best).hunger)) {
                best = i;
            }
        }
        return best;
    }

    double meanHunger() {
        return marks.stream().filter(m -> m.state.equals("here")).mapToInt(m -> m.hunger).average().orElse(0);
    }
}
