/** A machine that adopts stray punctuation. */
public final class MarkShelter {

    private static final int TAPE_BYTES = 2000;
    private static final int FED_BYTES = 20;
    private static final int MOST_TOKENS = 400;
    private static final int LONGEST_WORD = 10;
    private static final int LONGEST_NUMBER = 6;
    private static final int DEEPEST = 8;

    private static final int MOST_STRAYS = 12;
    private static final int MOST_ORDERS = 16;
    private static final int MOST_HOUSES = 6;
    private static final int MOST_COINS_AT_FIRST = 99;
    private static final int LATEST_DAY = 30;
    private static final int USUAL_HOUSES = 3;
    private static final int USUAL_COINS = 20;

    private static final int COMMA = 0;
    private static final int DASH = 1;
    private static final int STOP = 2;
    private static final int QUOTE = 3;

    private static final int TO_COME = 0;
    private static final int HERE = 1;
    private static final int ADOPTED = 2;
    private static final int GONE = 3;

    private static final int NOWHERE = -1;
    private static final int NEVER = -1;
    private static final int PLACES = 2;
    private static final int GREATEST = 9;
    private static final int HUNGER_AT_FIRST = 4;
    private static final int MEAL = 3;
    private static final int FIT_WILDNESS = 2;
    private static final int FIT_HUNGER = 5;
    private static final int RUNAWAY_WILDNESS = 6;
    private static final int ADOPTION_COINS = 5;

    private static final int MOST_DONATED = 99;
    private static final int MOST_DAYS_PASSED = 30;
    private static final int MOST_DAYS_AWAITED = 40;
    private static final int DAYS_BEHIND_FEEDING = 10;

    private static final Sign[] SIGNS = Sign.values();

    private final byte[] tape = new byte[TAPE_BYTES];
    private final BookReader reader = new BookReader();
    private final Shelter shelter = new Shelter();
    private final Shelter trial = new Shelter();
    private Book book = new Book();
    private int tapeLength = 0;
    private int errorPosition = -1;

    public MarkShelter() {
    }

    // ---- the language

    public int feed(int a, int b, int c, int d, int e) throws IllegalStateException {
        if (tapeLength + FED_BYTES > TAPE_BYTES) {
            throw new IllegalStateException("the tape is full");
        }
        append(a);
        append(b);
        append(c);
        append(d);
        append(e);
        return tapeLength;
    }

    private void append(int number) {
        for (int shift = 24; shift >= 0 && tapeLength < tape.length; shift -= 8) {
            tape[tapeLength] = (byte) (number >>> shift);
            tapeLength++;
        }
    }

    public int trim(int n) throws IllegalArgumentException {
        if (n < 0 || n > tapeLength) {
            throw new IllegalArgumentException("not 0 to the bytes of the tape");
        }
        tapeLength = n;
        return n;
    }

    public int teach() {
        int error = reader.read(tape, tapeLength);
        errorPosition = reader.errorPosition;
        tapeLength = 0;
        if (error == 0) {
            book = reader.exchangeBook(book);
            shelter.begin(book);
        }
        return error;
    }

    public int errorAt() {
        return errorPosition;
    }

    // ---- the machine

    public int strays() {
        return shelter.strayCount;
    }

    public int houses() {
        return shelter.houseCount;
    }

    public int coins() {
        return shelter.coinCount;
    }

    public int day() {
        return shelter.today;
    }

    public int ordersCarriedOut() {
        return shelter.carriedOut;
    }

    public int here() {
        return shelter.countIn(HERE);
    }

    public int adopted() {
        return shelter.countIn(ADOPTED);
    }

    public int gone() {
        return shelter.countIn(GONE);
    }

    public int room() {
        return shelter.freePlaces();
    }

    // ---- strays

    public int kindOf(int stray) throws IndexOutOfBoundsException {
        return toldStray(stray).kind;
    }

    public int dayOf(int stray) throws IndexOutOfBoundsException {
        return toldStray(stray).comingDay;
    }

    public boolean isHere(int stray) throws IndexOutOfBoundsException {
        return toldStray(stray).whereabouts == HERE;
    }

    public boolean isAdopted(int stray) throws IndexOutOfBoundsException {
        return toldStray(stray).whereabouts == ADOPTED;
    }

    public boolean isGone(int stray) throws IndexOutOfBoundsException {
        return toldStray(stray).whereabouts == GONE;
    }

    public int hungerOf(int stray) throws IndexOutOfBoundsException, IllegalStateException {
        return presentStray(stray).hunger;
    }

    public int wildnessOf(int stray) throws IndexOutOfBoundsException, IllegalStateException {
        return presentStray(stray).wildness;
    }

    public boolean isHoused(int stray) throws IndexOutOfBoundsException {
        return toldStray(stray).home != NOWHERE;
    }

    public int houseOf(int stray) throws IndexOutOfBoundsException, IllegalStateException {
        Stray asked = toldStray(stray);
        if (asked.home == NOWHERE) {
            throw new IllegalStateException("in no house");
        }
        return asked.home;
    }

    public boolean isPaired(int stray) throws IndexOutOfBoundsException {
        return shelter.mateOf(toldStray(stray)) != null;
    }

    public boolean isReady(int stray) throws IndexOutOfBoundsException {
        return shelter.mayBeAdopted(toldStray(stray));
    }

    public int hungriest() {
        int found = -1;
        int greatest = -1;
        for (int i = 0; i < MOST_STRAYS; i++) {
            Stray asked = shelter.strays[i];
            if (asked.whereabouts == HERE && asked.hunger > greatest) {
                found = i;
                greatest = asked.hunger;
            }
        }
        return found;
    }

    private Stray toldStray(int stray) {
        if (stray < 0 || stray >= shelter.strayCount || stray >= MOST_STRAYS) {
            throw new IndexOutOfBoundsException("no such stray");
        }
        return shelter.strays[stray];
    }

    private Stray presentStray(int stray) {
        Stray asked = toldStray(stray);
        if (asked.whereabouts != HERE) {
            throw new IllegalStateException("not here");
        }
        return asked;
    }

    // ---- houses

    public int straysIn(int house) throws IndexOutOfBoundsException {
        if (house < 0 || house >= shelter.houseCount) {
            throw new IndexOutOfBoundsException("no such house");
        }
        return shelter.countInHouse(house);
    }

    // ---- by hand

    public int feedStray(int stray) throws IndexOutOfBoundsException, IllegalStateException {
        return doByHand(Sign.FEED, stray).hunger;
    }

    public int train(int stray) throws IndexOutOfBoundsException, IllegalStateException {
        return doByHand(Sign.TRAIN, stray).wildness;
    }

    public int house(int stray) throws IndexOutOfBoundsException, IllegalStateException {
        return doByHand(Sign.HOUSE, stray).home;
    }

    public int free(int stray) throws IndexOutOfBoundsException, IllegalStateException {
        int home = toldStray(stray).home;
        doByHand(Sign.FREE, stray);
        return home;
    }

    public int offer(int stray) throws IndexOutOfBoundsException, IllegalStateException {
        int before = shelter.countIn(ADOPTED);
        doByHand(Sign.OFFER, stray);
        return shelter.countIn(ADOPTED) - before;
    }

    public int donate(int coins) throws IllegalArgumentException {
        if (coins < 1 || coins > MOST_DONATED) {
            throw new IllegalArgumentException("not 1 to 99 coins");
        }
        shelter.coinCount += coins;
        return shelter.coinCount;
    }

    private Stray doByHand(Sign verb, int stray) {
        Stray asked = toldStray(stray);
        if (!shelter.can(verb, asked)) {
            throw new IllegalStateException("it cannot be done");
        }
        shelter.act(verb, asked);
        return asked;
    }

    // ---- days and what would be

    public int passDays(int days) throws IllegalArgumentException {
        checkDays(days);
        int before = shelter.countIn(ADOPTED);
        shelter.letDaysGo(book, days);
        return shelter.countIn(ADOPTED) - before;
    }

    public int adoptedAfter(int days) throws IllegalArgumentException {
        checkDays(days);
        return countBehind(days, ADOPTED);
    }

    public int goneAfter(int days) throws IllegalArgumentException {
        checkDays(days);
        return countBehind(days, GONE);
    }

    public int daysUntilGone(int stray) throws IndexOutOfBoundsException {
        toldStray(stray);
        return daysUntil(stray, GONE);
    }

    public int daysUntilAdopted(int stray) throws IndexOutOfBoundsException {
        toldStray(stray);
        return daysUntil(stray, ADOPTED);
    }

    public int bestToFeed() {
        int best = -1;
        trial.copyFrom(shelter);
        trial.letDaysGo(book, DAYS_BEHIND_FEEDING);
        int fewest = trial.countIn(GONE);
        for (int i = 0; i < MOST_STRAYS; i++) {
            if (shelter.can(Sign.FEED, shelter.strays[i])) {
                trial.copyFrom(shelter);
                trial.act(Sign.FEED, trial.strays[i]);
                trial.letDaysGo(book, DAYS_BEHIND_FEEDING);
                int count = trial.countIn(GONE);
                if (count < fewest) {
                    best = i;
                    fewest = count;
                }
            }
        }
        return best;
    }

    public double meanHunger() {
        int count = 0;
        int sum = 0;
        for (Stray stray : shelter.strays) {
            if (stray.whereabouts == HERE) {
                count++;
                sum += stray.hunger;
            }
        }
        return count == 0 ? 0.0 : (double) sum / (double) count;
    }

    public long digest() {
        long d = 1031L;
        d = d * 31L + shelter.strayCount;
        d = d * 31L + shelter.houseCount;
        d = d * 31L + shelter.coinCount;
        d = d * 31L + shelter.today;
        d = d * 31L + shelter.carriedOut;
        d = d * 31L + shelter.countIn(HERE);
        d = d * 31L + shelter.countIn(ADOPTED);
        d = d * 31L + shelter.countIn(GONE);
        d = d * 31L + shelter.freePlaces();
        d = d * 31L + bestToFeed();
        for (int i = 0; i < shelter.strayCount && i < MOST_STRAYS; i++) {
            d = digestOfStray(d, shelter.strays[i]);
        }
        for (int house = 0; house < shelter.houseCount; house++) {
            d = d * 31L + shelter.countInHouse(house);
        }
        return d;
    }

    private long digestOfStray(long before, Stray stray) {
        boolean present = stray.whereabouts == HERE;
        long d = before * 31L + stray.kind;
        d = d * 31L + stray.comingDay;
        d = d * 31L + (present ? 1 : 0);
        d = d * 31L + (stray.whereabouts == ADOPTED ? 1 : 0);
        d = d * 31L + (stray.whereabouts == GONE ? 1 : 0);
        d = d * 31L + (present ? stray.hunger : -1);
        d = d * 31L + (present ? stray.wildness : -1);
        d = d * 31L + stray.home;
        d = d * 31L + (shelter.mateOf(stray) != null ? 1 : 0);
        return d * 31L + (shelter.mayBeAdopted(stray) ? 1 : 0);
    }

    private static void checkDays(int days) {
        if (days < 1 || days > MOST_DAYS_PASSED) {
            throw new IllegalArgumentException("not 1 to 30 days");
        }
    }

    private int countBehind(int days, int whereabouts) {
        trial.copyFrom(shelter);
        trial.letDaysGo(book, days);
        return trial.countIn(whereabouts);
    }

    private int daysUntil(int stray, int whereabouts) {
        if (stray < 0 || stray >= MOST_STRAYS) {
            return -1;
        }
        trial.copyFrom(shelter);
        Stray watched = trial.strays[stray];
        int days = 0;
        while (days < MOST_DAYS_AWAITED && watched.whereabouts != whereabouts) {
            trial.letDaysGo(book, 1);
            days++;
        }
        return watched.whereabouts == whereabouts ? days : -1;
    }

    /** The keywords, symbols and other tokens of the language; some are also steps of a test. */
    private enum Sign {
        HOUSES("houses"), COINS("coins"), STRAY("stray"), IS("is"),
        COMMA("comma"), DASH("dash"), STOP("stop"), QUOTE("quote"), ON("on"),
        FEED("feed"), TRAIN("train"), HOUSE("house"), FREE("free"), OFFER("offer"),
        WHEN("when"), DAY("day"), HERE("here"), ROOM("room"),
        HUNGER("hunger"), WILD("wild"), OF("of"),
        HOUSED("housed"), PAIRED("paired"), READY("ready"),
        NOT("not"), AND("and"), OR("or"), MIN("min"), MAX("max"),
        OPEN("("), CLOSE(")"), OPEN_TEST("["), CLOSE_TEST("]"),
        SEMICOLON(";"), SEPARATOR(","),
        PLUS("+"), MINUS("-"), TIMES("*"), OVER("/"),
        LESS("<"), GREATER(">"), EQUAL("="), AT_MOST("<="), AT_LEAST(">="),
        NAME(""), NUMBER(""), END(""), BAD(""), NEGATE("");

        final String text;

        Sign(String text) {
            this.text = text;
        }
    }

    /** The tokens of a tape in a row; the last one is END, or BAD where no token can be read. */
    private static final class Tokens {
        final Sign[] signs = new Sign[MOST_TOKENS + 1];
        final int[] positions = new int[MOST_TOKENS + 1];
        final long[] worths = new long[MOST_TOKENS + 1];
        int count = 0;
        private byte[] bytes = new byte[0];
        private int length = 0;
        private int next = 0;

        Tokens() {
            for (int i = 0; i <= MOST_TOKENS; i++) {
                signs[i] = Sign.END;
            }
        }

        void readTape(byte[] tape, int tapeLength) {
            bytes = tape;
            length = tapeLength;
            next = 0;
            count = 0;
            boolean more = true;
            while (more && count <= MOST_TOKENS) {
                skipBlanks();
                positions[count] = next;
                worths[count] = 0L;
                Sign sign = readToken(count);
                signs[count] = sign;
                more = sign != Sign.END && sign != Sign.BAD;
                count++;
            }
        }

        private void skipBlanks() {
            while (next < length && isBlank(byteAt(next))) {
                next++;
            }
        }

        private Sign readToken(int index) {
            if (next >= length) {
                return Sign.END;
            }
            if (index >= MOST_TOKENS) {
                return Sign.BAD;
            }
            int first = byteAt(next);
            if (isLetter(first)) {
                return readWord(index);
            }
            return isDigit(first) ? readNumber(index) : readSymbol();
        }

        private Sign readWord(int index) {
            int from = next;
            long spelling = 0L;
            while (next < length && letterNumber(byteAt(next)) > 0) {
                spelling = spelling * 37L + letterNumber(byteAt(next));
                next++;
            }
            if (next - from > LONGEST_WORD || index >= worths.length) {
                return Sign.BAD;
            }
            worths[index] = spelling;
            for (Sign sign : SIGNS) {
                if (sign.text.length() == next - from && standsAt(sign.text, from)) {
                    return sign;
                }
            }
            return Sign.NAME;
        }

        private Sign readNumber(int index) {
            int from = next;
            long number = 0L;
            while (next < length && isDigit(byteAt(next))) {
                number = number * 10L + (byteAt(next) - '0');
                next++;
            }
            if (next - from > LONGEST_NUMBER || index >= worths.length) {
                return Sign.BAD;
            }
            worths[index] = number;
            return Sign.NUMBER;
        }

        private Sign readSymbol() {
            Sign longest = Sign.BAD;
            for (Sign sign : SIGNS) {
                if (sign.text.length() > longest.text.length() && standsAt(sign.text, next)) {
                    longest = sign;
                }
            }
            next += longest.text.length();
            return longest;
        }

        private boolean standsAt(String text, int position) {
            for (int i = 0; i < text.length(); i++) {
                if (byteAt(position + i) != text.charAt(i)) {
                    return false;
                }
            }
            return true;
        }

        private int byteAt(int position) {
            boolean inside = position >= 0 && position < length && position < bytes.length;
            return inside ? bytes[position] & 255 : -1;
        }

        private static boolean isBlank(int value) {
            return value == 32 || value == 10;
        }

        private static boolean isLetter(int value) {
            return value >= 'a' && value <= 'z';
        }

        private static boolean isDigit(int value) {
            return value >= '0' && value <= '9';
        }

        /** 1 to 36, so that ten of them are a number of their own to the base 37; 0 ends a word. */
        private static int letterNumber(int value) {
            if (isLetter(value)) {
                return value - 'a' + 1;
            }
            return isDigit(value) ? value - '0' + 27 : 0;
        }
    }

    /** Reads a tape into a book of its own, by the grammar, and keeps its first error. */
    private static final class BookReader {
        int errorPosition = -1;
        private final Tokens tokens = new Tokens();
        private Book book = new Book();
        private int error = 0;
        private int index = 0;
        private Sign sign = Sign.END;
        private int position = 0;
        private long worth = 0L;

        /** Hands out the book that was read, and takes one to overwrite for it. */
        Book exchangeBook(Book old) {
            Book read = book;
            book = old;
            return read;
        }

        /** Returns the number of the error, or 0; the book is good only if it is 0. */
        int read(byte[] tape, int tapeLength) {
            tokens.readTape(tape, tapeLength);
            book.clear();
            error = 0;
            errorPosition = -1;
            index = -1;
            advance();
            readBeginning();
            for (int i = 0; i < MOST_TOKENS && sign != Sign.END && error != 1; i++) {
                if (sign == Sign.STRAY) {
                    readStray();
                } else if (isVerb(sign)) {
                    readOrder();
                } else {
                    fail();
                }
            }
            return error;
        }

        private void readBeginning() {
            if (sign == Sign.HOUSES) {
                advance();
                book.houseCount = readNumber(1, MOST_HOUSES);
                expect(Sign.SEMICOLON);
            }
            if (sign == Sign.COINS) {
                advance();
                book.coinCount = readNumber(0, MOST_COINS_AT_FIRST);
                expect(Sign.SEMICOLON);
            }
        }

        private void readStray() {
            advance();
            long name = worth;
            if (sign == Sign.NAME && book.strayNamed(name) >= 0) {
                tell(2);
            } else if (sign == Sign.NAME && book.strayCount >= MOST_STRAYS) {
                tell(4);
            }
            expect(Sign.NAME);
            expect(Sign.IS);
            int kind = kindTold(sign);
            if (kind < 0) {
                fail();
            }
            advance();
            expect(Sign.ON);
            int comingDay = readNumber(0, LATEST_DAY);
            expect(Sign.SEMICOLON);
            book.addStray(name, kind, comingDay);
        }

        private void readOrder() {
            if (book.orderCount >= MOST_ORDERS) {
                tell(4);
            }
            Sign verb = sign;
            int from = book.codeLength;
            advance();
            int stray = readKnownName();
            if (sign == Sign.WHEN) {
                advance();
                readTest(0);
            }
            expect(Sign.SEMICOLON);
            book.addOrder(verb, stray, from);
        }

        private void readTest(int depth) {
            readBoth(depth);
            for (int i = 0; i < MOST_TOKENS && sign == Sign.OR; i++) {
                advance();
                readBoth(depth);
                book.addStep(Sign.OR, 0);
            }
        }

        private void readBoth(int depth) {
            readSingle(depth);
            for (int i = 0; i < MOST_TOKENS && sign == Sign.AND; i++) {
                advance();
                readSingle(depth);
                book.addStep(Sign.AND, 0);
            }
        }

        private void readSingle(int depth) {
            switch (sign) {
                case NOT:
                    if (goDeeper(depth)) {
                        readSingle(depth + 1);
                        book.addStep(Sign.NOT, 0);
                    }
                    break;
                case OPEN_TEST:
                    if (goDeeper(depth)) {
                        readTest(depth + 1);
                        expect(Sign.CLOSE_TEST);
                    }
                    break;
                case HOUSED:
                case PAIRED:
                case READY:
                    Sign property = sign;
                    advance();
                    book.addStep(property, readKnownName());
                    break;
                default:
                    readSum(depth);
                    Sign relation = sign;
                    if (!isRelation(relation)) {
                        fail();
                    }
                    advance();
                    readSum(depth);
                    book.addStep(relation, 0);
                    break;
            }
        }

        private void readSum(int depth) {
            readProduct(depth);
            for (int i = 0; i < MOST_TOKENS && (sign == Sign.PLUS || sign == Sign.MINUS); i++) {
                Sign operation = sign;
                advance();
                readProduct(depth);
                book.addStep(operation, 0);
            }
        }

        private void readProduct(int depth) {
            readValue(depth);
            for (int i = 0; i < MOST_TOKENS && (sign == Sign.TIMES || sign == Sign.OVER); i++) {
                Sign operation = sign;
                advance();
                readValue(depth);
                book.addStep(operation, 0);
            }
        }

        private void readValue(int depth) {
            Sign first = sign;
            switch (first) {
                case NUMBER:
                    book.addStep(first, (int) worth);
                    advance();
                    break;
                case DAY:
                case HERE:
                case COINS:
                case ROOM:
                    book.addStep(first, 0);
                    advance();
                    break;
                case HUNGER:
                case WILD:
                    advance();
                    expect(Sign.OF);
                    book.addStep(first, readKnownName());
                    break;
                case MINUS:
                    if (goDeeper(depth)) {
                        readValue(depth + 1);
                        book.addStep(Sign.NEGATE, 0);
                    }
                    break;
                case OPEN:
                    if (goDeeper(depth)) {
                        readSum(depth + 1);
                        expect(Sign.CLOSE);
                    }
                    break;
                case MIN:
                case MAX:
                    readChoice(depth);
                    break;
                default:
                    fail();
                    break;
            }
        }

        private void readChoice(int depth) {
            Sign choice = sign;
            advance();
            if (sign != Sign.OPEN) {
                fail();
            } else if (goDeeper(depth)) {
                readSum(depth + 1);
                expect(Sign.SEPARATOR);
                readSum(depth + 1);
                expect(Sign.CLOSE);
                book.addStep(choice, 0);
            }
        }

        /** Goes behind a token that makes the depth 1 greater; false, and an error, if it may not. */
        private boolean goDeeper(int depth) {
            if (depth >= DEEPEST) {
                fail();
                return false;
            }
            advance();
            return true;
        }

        private int readNumber(int least, int most) {
            int number = (int) worth;
            if (sign == Sign.NUMBER && (number < least || number > most)) {
                tell(5);
            }
            expect(Sign.NUMBER);
            return number;
        }

        private int readKnownName() {
            int stray = book.strayNamed(worth);
            if (sign == Sign.NAME && stray < 0) {
                tell(3);
            }
            expect(Sign.NAME);
            return stray;
        }

        private void expect(Sign wanted) {
            if (sign == wanted) {
                advance();
            } else {
                fail();
            }
        }

        /** Behind an error 1 the sign stays BAD, so that nothing more is read. */
        private void advance() {
            int next = index + 1;
            if (error != 1 && next >= 0 && next < tokens.count && next <= MOST_TOKENS) {
                index = next;
                sign = tokens.signs[next];
                position = tokens.positions[next];
                worth = tokens.worths[next];
            }
        }

        private void fail() {
            if (error != 1) {
                error = 1;
                errorPosition = position;
                sign = Sign.BAD;
            }
        }

        /** Keeps an error that is not 1, if it is the first. */
        private void tell(int found) {
            if (error == 0) {
                error = found;
                errorPosition = position;
            }
        }

        private static boolean isVerb(Sign sign) {
            return sign == Sign.FEED || sign == Sign.TRAIN || sign == Sign.HOUSE
                || sign == Sign.FREE || sign == Sign.OFFER;
        }

        private static boolean isRelation(Sign sign) {
            return sign == Sign.LESS || sign == Sign.GREATER || sign == Sign.EQUAL
                || sign == Sign.AT_MOST || sign == Sign.AT_LEAST;
        }

        private static int kindTold(Sign sign) {
            switch (sign) {
                case COMMA:
                    return COMMA;
                case DASH:
                    return DASH;
                case STOP:
                    return STOP;
                case QUOTE:
                    return QUOTE;
                default:
                    return -1;
            }
        }
    }

    /** An order; its test is the steps of the book from the first up to (not with) the end. */
    private static final class Order {
        Sign verb = Sign.FEED;
        int stray = 0;
        int firstStep = 0;
        int endOfSteps = 0;
    }

    /** What was told: houses, coins, strays, orders, and the steps of all tests, operands first. */
    private static final class Book {
        int houseCount = USUAL_HOUSES;
        int coinCount = USUAL_COINS;
        int strayCount = 0;
        final int[] kinds = new int[MOST_STRAYS];
        final int[] comingDays = new int[MOST_STRAYS];
        int orderCount = 0;
        final Order[] orders = new Order[MOST_ORDERS];
        int codeLength = 0;
        private final long[] names = new long[MOST_STRAYS];
        private final Sign[] code = new Sign[MOST_TOKENS];
        private final int[] arguments = new int[MOST_TOKENS];
        private final int[] stack = new int[MOST_TOKENS];

        Book() {
            for (int i = 0; i < MOST_ORDERS; i++) {
                orders[i] = new Order();
            }
            for (int i = 0; i < MOST_TOKENS; i++) {
                code[i] = Sign.NUMBER;
            }
        }

        void clear() {
            houseCount = USUAL_HOUSES;
            coinCount = USUAL_COINS;
            strayCount = 0;
            orderCount = 0;
            codeLength = 0;
        }

        int strayNamed(long name) {
            for (int i = 0; i < strayCount && i < MOST_STRAYS; i++) {
                if (names[i] == name) {
                    return i;
                }
            }
            return -1;
        }

        void addStray(long name, int kind, int comingDay) {
            if (strayCount >= 0 && strayCount < MOST_STRAYS) {
                names[strayCount] = name;
                kinds[strayCount] = kind;
                comingDays[strayCount] = comingDay;
                strayCount++;
            }
        }

        void addOrder(Sign verb, int stray, int firstStep) {
            if (orderCount >= 0 && orderCount < MOST_ORDERS) {
                Order order = orders[orderCount];
                order.verb = verb;
                order.stray = stray;
                order.firstStep = firstStep;
                order.endOfSteps = codeLength;
                orderCount++;
            }
        }

        void addStep(Sign sign, int argument) {
            if (codeLength >= 0 && codeLength < MOST_TOKENS) {
                code[codeLength] = sign;
                arguments[codeLength] = argument;
                codeLength++;
            }
        }

        /** Whether the test of an order holds, or it has none. */
        boolean holds(Order order, Shelter shelter) {
            int height = 0;
            for (int i = order.firstStep; i < order.endOfSteps; i++) {
                if (i < 0 || i >= MOST_TOKENS) {
                    return false;
                }
                Sign sign = code[i];
                int operands = operandsOf(sign);
                int result = height - operands;
                if (result < 0 || result + 1 >= MOST_TOKENS) {
                    return false;
                }
                if (operands == 0) {
                    stack[result] = shelter.reckon(sign, arguments[i]);
                } else if (operands == 1) {
                    stack[result] = turn(sign, stack[result]);
                } else {
                    stack[result] = join(sign, stack[result], stack[result + 1]);
                }
                height = result + 1;
            }
            return height == 0 || stack[0] != 0;
        }

        private static int operandsOf(Sign sign) {
            switch (sign) {
                case NUMBER:
                case DAY:
                case HERE:
                case COINS:
                case ROOM:
                case HUNGER:
                case WILD:
                case HOUSED:
                case PAIRED:
                case READY:
                    return 0;
                case NOT:
                case NEGATE:
                    return 1;
                default:
                    return 2;
            }
        }

        private static int turn(Sign sign, int value) {
            if (sign == Sign.NOT) {
                return value == 0 ? 1 : 0;
            }
            return -value;
        }

        private static int join(Sign sign, int left, int right) {
            switch (sign) {
                case PLUS:
                    return left + right;
                case MINUS:
                    return left - right;
                case TIMES:
                    return left * right;
                case OVER:
                    return right == 0 ? 0 : left / right;
                case MIN:
                    return left < right ? left : right;
                case MAX:
                    return left > right ? left : right;
                case LESS:
                    return left < right ? 1 : 0;
                case GREATER:
                    return left > right ? 1 : 0;
                case EQUAL:
                    return left == right ? 1 : 0;
                case AT_MOST:
                    return left <= right ? 1 : 0;
                case AT_LEAST:
                    return left >= right ? 1 : 0;
                case AND:
                    return left & right;
                default:
                    return left | right;
            }
        }
    }

    private static final class Stray {
        int kind = COMMA;
        int comingDay = NEVER;
        int whereabouts = TO_COME;
        int hunger = HUNGER_AT_FIRST;
        int wildness = 0;
        int home = NOWHERE;

        void begin(int itsKind, int itsDay) {
            kind = itsKind;
            comingDay = itsDay;
            whereabouts = TO_COME;
            hunger = HUNGER_AT_FIRST;
            wildness = wildnessAtFirst(itsKind);
            home = NOWHERE;
        }

        void copyFrom(Stray other) {
            kind = other.kind;
            comingDay = other.comingDay;
            whereabouts = other.whereabouts;
            hunger = other.hunger;
            wildness = other.wildness;
            home = other.home;
        }

        boolean isFit() {
            return whereabouts == HERE && wildness <= FIT_WILDNESS && hunger <= FIT_HUNGER;
        }

        void leaveTo(int itsWhereabouts) {
            whereabouts = itsWhereabouts;
            home = NOWHERE;
        }

        void hungerGrows(int by) {
            hunger = Math.min(GREATEST, hunger + by);
        }

        void wildnessGrows() {
            wildness = Math.min(GREATEST, wildness + 1);
        }

        private static int wildnessAtFirst(int kind) {
            switch (kind) {
                case COMMA:
                    return 3;
                case DASH:
                    return 8;
                case STOP:
                    return 2;
                default:
                    return 6;
            }
        }
    }

    /** Houses, coins and strays in a day. Strays that were not told are to come, and never do. */
    private static final class Shelter {
        int strayCount = 0;
        int houseCount = USUAL_HOUSES;
        int coinCount = USUAL_COINS;
        int today = 0;
        int carriedOut = 0;
        final Stray[] strays = new Stray[MOST_STRAYS];

        Shelter() {
            for (int i = 0; i < MOST_STRAYS; i++) {
                strays[i] = new Stray();
            }
        }

        void begin(Book book) {
            strayCount = book.strayCount;
            houseCount = book.houseCount;
            coinCount = book.coinCount;
            today = 0;
            carriedOut = 0;
            for (int i = 0; i < MOST_STRAYS; i++) {
                boolean told = i < strayCount;
                strays[i].begin(told ? book.kinds[i] : COMMA, told ? book.comingDays[i] : NEVER);
            }
            letCome();
        }

        void copyFrom(Shelter other) {
            strayCount = other.strayCount;
            houseCount = other.houseCount;
            coinCount = other.coinCount;
            today = other.today;
            carriedOut = other.carriedOut;
            for (int i = 0; i < MOST_STRAYS; i++) {
                strays[i].copyFrom(other.strays[i]);
            }
        }

        int countIn(int whereabouts) {
            int count = 0;
            for (int i = 0; i < strayCount && i < MOST_STRAYS; i++) {
                if (strays[i].whereabouts == whereabouts) {
                    count++;
                }
            }
            return count;
        }

        int countInHouse(int house) {
            int count = 0;
            for (Stray stray : strays) {
                if (stray.home == house) {
                    count++;
                }
            }
            return count;
        }

        int freePlaces() {
            return houseCount * PLACES - (MOST_STRAYS - countInHouse(NOWHERE));
        }

        /** The other quote in the house of a quote, or null. */
        Stray mateOf(Stray stray) {
            if (stray.kind != QUOTE || stray.home == NOWHERE) {
                return null;
            }
            for (Stray other : strays) {
                if (other != stray && other.kind == QUOTE && other.home == stray.home) {
                    return other;
                }
            }
            return null;
        }

        boolean mayBeAdopted(Stray stray) {
            if (!stray.isFit()) {
                return false;
            }
            if (stray.kind == STOP) {
                return stray.home != NOWHERE;
            }
            if (stray.kind == QUOTE) {
                Stray mate = mateOf(stray);
                return mate != null && mate.isFit();
            }
            return true;
        }

        boolean can(Sign verb, Stray stray) {
            boolean present = stray.whereabouts == HERE;
            switch (verb) {
                case FEED:
                    return present && coinCount > 0;
                case TRAIN:
                    return present;
                case HOUSE:
                    return present && stray.home == NOWHERE && freePlaces() > 0;
                case FREE:
                    return stray.home != NOWHERE;
                case OFFER:
                    return mayBeAdopted(stray);
                default:
                    return false;
            }
        }

        /** Does what can be done. */
        void act(Sign verb, Stray stray) {
            switch (verb) {
                case FEED:
                    coinCount--;
                    stray.hunger = Math.max(0, stray.hunger - MEAL);
                    break;
                case TRAIN:
                    int less = stray.hunger <= FIT_HUNGER ? 2 : 1;
                    stray.wildness = Math.max(0, stray.wildness - less);
                    stray.hungerGrows(1);
                    break;
                case HOUSE:
                    stray.home = houseFor(stray);
                    break;
                case FREE:
                    stray.home = NOWHERE;
                    break;
                case OFFER:
                    adopt(stray);
                    break;
                default:
                    break;
            }
        }

        private int houseFor(Stray stray) {
            if (stray.kind == QUOTE) {
                for (int house = 0; house < houseCount; house++) {
                    if (isHouseOfOneQuote(house)) {
                        return house;
                    }
                }
            }
            for (int house = 0; house < houseCount; house++) {
                if (countInHouse(house) < PLACES) {
                    return house;
                }
            }
            return NOWHERE;
        }

        private boolean isHouseOfOneQuote(int house) {
            int quotes = 0;
            int others = 0;
            for (Stray stray : strays) {
                if (stray.home == house) {
                    quotes += stray.kind == QUOTE ? 1 : 0;
                    others += stray.kind == QUOTE ? 0 : 1;
                }
            }
            return quotes == 1 && others == 0;
        }

        private void adopt(Stray stray) {
            Stray mate = mateOf(stray);
            stray.leaveTo(ADOPTED);
            coinCount += ADOPTION_COINS;
            if (mate != null) {
                mate.leaveTo(ADOPTED);
                coinCount += ADOPTION_COINS;
            }
        }

        void letDaysGo(Book book, int days) {
            for (int i = 0; i < days; i++) {
                for (int k = 0; k < book.orderCount && k < MOST_ORDERS; k++) {
                    Order order = book.orders[k];
                    Stray stray = strayOf(order);
                    if (book.holds(order, this) && can(order.verb, stray)) {
                        act(order.verb, stray);
                        carriedOut++;
                    }
                }
                growHungryAndWild();
                letRunAway();
                today++;
                letCome();
            }
        }

        private Stray strayOf(Order order) {
            boolean told = order.stray >= 0 && order.stray < MOST_STRAYS;
            return strays[told ? order.stray : 0];
        }

        private void growHungryAndWild() {
            for (Stray stray : strays) {
                if (stray.whereabouts == HERE) {
                    stray.hungerGrows(stray.kind == COMMA ? 2 : 1);
                    boolean wantsHouse = stray.kind == DASH || stray.kind == STOP;
                    if (wantsHouse && stray.home == NOWHERE) {
                        stray.wildnessGrows();
                    }
                }
            }
        }

        private void letRunAway() {
            for (Stray stray : strays) {
                if (stray.whereabouts == HERE && wantsAway(stray)) {
                    stray.leaveTo(GONE);
                }
            }
        }

        private boolean wantsAway(Stray stray) {
            boolean lonely = stray.kind == QUOTE && mateOf(stray) == null;
            return stray.hunger >= GREATEST || (lonely && stray.wildness >= RUNAWAY_WILDNESS);
        }

        private void letCome() {
            for (Stray stray : strays) {
                if (stray.comingDay == today) {
                    stray.whereabouts = HERE;
                }
            }
        }

        /** What a step of a test is that has no operands: 1 or 0 for what holds or not. */
        int reckon(Sign sign, int argument) {
            boolean told = argument >= 0 && argument < MOST_STRAYS;
            Stray stray = strays[told ? argument : 0];
            boolean present = stray.whereabouts == HERE;
            switch (sign) {
                case DAY:
                    return today;
                case HERE:
                    return countIn(HERE);
                case COINS:
                    return coinCount;
                case ROOM:
                    return freePlaces();
                case HUNGER:
                    return present ? stray.hunger : 0;
                case WILD:
                    return present ? stray.wildness : 0;
                case HOUSED:
                    return stray.home != NOWHERE ? 1 : 0;
                case PAIRED:
                    return mateOf(stray) != null ? 1 : 0;
                case READY:
                    return mayBeAdopted(stray) ? 1 : 0;
                default:
                    return argument;
            }
        }
    }
}
