/** People who wake knowing all of the day that comes; ../shared/DOC.md tells what each call promises. */
public final class DayKnown {
    public static final int NONE = -1, BAD = -2, STATE = -3, FULL = -4;

    private static final int NOT_THERE = -5;
    private static final int OTHER_KIND = -6;
    private static final int FAULT_BASE = -10;
    // Answers that may be below 0 themselves have refusals of their own.
    private static final int NONE_FAR = -10001;
    private static final int BAD_FAR = -10002;

    private static final int HOURS = 3;
    private static final int ROWS = 1 << HOURS;
    private static final int MOST_PEOPLE = 4;
    private static final int MOST_V = 9;
    private static final int MOST_SIGNS = 100;
    private static final int MOST_TOWNS = 5;
    private static final int MOST_DAYS_IN_BOOK = 10;
    private static final int MOST_MORNINGS = 30;
    private static final int LONGEST_ONCE = 60;
    private static final int LONGEST_AGAIN = 200;

    private static final int DOER = 0;
    private static final int BEST = 1;
    private static final int PLAIN = 2;
    private static final int STRANGER = 3;
    private static final int PACT = 4;
    private static final int CONTRARY = 5;
    private static final int TOLD = 6;
    private static final int KINDS = 7;
    private static final int[] KIND_ABOVE = {-1, DOER, DOER, DOER, PLAIN, STRANGER, STRANGER};

    private final Held held = new Held();
    private final Held saved = new Held();
    private boolean isSaved;
    private final Town noTown = new Town();
    private final Town[] towns = new Town[MOST_TOWNS];
    private final Days now = new Days(held.folk);
    // What the days would be if something were otherwise, or come later.
    private final Days then = new Days(new Folk());
    private final int[] path = new int[LONGEST_AGAIN + 1];
    private final Acts acts = new Acts();

    public DayKnown() {
        for (int i = 0; i < towns.length; i++) {
            towns[i] = new Town();
        }
    }

    // ---- towns, people

    public int feed(int sign) {
        if (sign < 0 || sign > 127) {
            return BAD;
        }
        if (held.signs < 0 || held.signs >= held.tape.length) {
            return FULL;
        }
        held.tape[held.signs] = sign;
        held.signs++;
        return held.signs;
    }

    public int town() {
        int number = held.towns;
        if (number < 0 || number >= towns.length || towns[number] == null) {
            return FULL;
        }
        int fault = towns[number].read(held.tape, held.signs);
        held.signs = 0;
        if (fault >= 0) {
            return FAULT_BASE - fault;
        }
        held.towns++;
        forgetTowns();
        return number;
    }

    public int told(int what) {
        switch (what) {
            case 0:
                return newestTown().noteHours;
            case 1:
                return held.folk.yesterday;
            case 2:
                return held.folk.notes;
            default:
                return NONE;
        }
    }

    public int person(int kind, int v) {
        if (kind < 0 || kind >= KINDS) {
            return NONE;
        }
        if (v < 0 || v > MOST_V) {
            return BAD;
        }
        int number = held.folk.join(kind, v);
        if (number < 0) {
            return FULL;
        }
        now.forget();
        return number;
    }

    public int of(int person, int what) {
        Folk folk = held.folk;
        if (!folk.has(person)) {
            return NONE;
        }
        switch (what) {
            case 0:
                return folk.kind[person];
            case 1:
                return folk.v[person];
            case 2:
                return folk.kind[person] == TOLD ? folk.row[person] : NOT_THERE;
            case 3:
                return folk.noteOf(person);
            default:
                return NONE;
        }
    }

    public int row(int person, int hours) {
        Folk folk = held.folk;
        if (!folk.has(person)) {
            return NONE;
        }
        if (hours < 0 || hours >= ROWS) {
            return BAD;
        }
        if (folk.kind[person] != TOLD) {
            return STATE;
        }
        int was = folk.row[person];
        folk.row[person] = hours;
        now.forget();
        return was;
    }

    public int note(int person, boolean is) {
        Folk folk = held.folk;
        if (!folk.has(person)) {
            return NONE;
        }
        int was = folk.noteOf(person);
        folk.putNote(person, is);
        now.forget();
        return was;
    }

    public int yesterday(int day) {
        if (!held.folk.isDay(day)) {
            return BAD;
        }
        int was = held.folk.yesterday;
        held.folk.yesterday = day;
        now.forget();
        return was;
    }

    // ---- days

    public int by(int day, int person, int hour, int what) {
        if (!held.folk.has(person) || !isHour(hour) || what < 0 || what > 2) {
            return NONE_FAR;
        }
        if (!held.folk.isDay(day)) {
            return BAD_FAR;
        }
        now.prepare(newestTown());
        int sight = now.sightOf(person, day);
        switch (what) {
            case 0:
                return now.worth(person, hour, sight);
            case 1:
                return bit(now.answerOf(person, day), hour);
            default:
                return now.gain(person, sight);
        }
    }

    public int day(int day, int what) {
        if (what < 0 || what > 2) {
            return NONE_FAR;
        }
        if (!held.folk.isDay(day)) {
            return BAD_FAR;
        }
        now.prepare(newestTown());
        switch (what) {
            case 0:
                return now.firstOtherwise(day);
            case 1:
                return now.answer(day);
            default:
                return now.gainOfAll(day);
        }
    }

    public int all(int what) {
        if (what < 0 || what > 4) {
            return NONE_FAR;
        }
        searchNow();
        switch (what) {
            case 0:
                return now.stood;
            case 1:
                return now.least;
            case 2:
                return now.greatest;
            case 3:
                return now.chosen;
            default:
                return now.stood > 0 ? now.chosenGain : NOT_THERE;
        }
    }

    public int once(int day, int person, int hour, int what) {
        if (!held.folk.has(person) || !isHour(hour) || !isPart(what)) {
            return NONE;
        }
        if (!held.folk.isDay(day)) {
            return BAD;
        }
        now.prepare(newestTown());
        int next = day ^ 1 << HOURS * person + hour;
        for (int on = 0; on <= LONGEST_ONCE; on++) {
            if (now.stands(next)) {
                return what == 0 ? on : next;
            }
            next = now.answer(next);
        }
        return NOT_THERE;
    }

    public int again(int day, int what) {
        if (!isPart(what)) {
            return NONE;
        }
        if (!held.folk.isDay(day)) {
            return BAD;
        }
        now.prepare(newestTown());
        path[0] = day;
        for (int on = 1; on < path.length; on++) {
            path[on] = now.answer(path[on - 1]);
            int was = placeOnPath(path[on], on);
            if (was >= 0) {
                return what == 0 ? on : on - was;
            }
        }
        return NOT_THERE;
    }

    public int morning() {
        searchNow();
        int day = now.comingDay();
        held.folk.endMorning(day, newestTown().noteHours);
        now.forget();
        return day;
    }

    public int year(int n, int what) {
        if (!isPart(what)) {
            return NONE_FAR;
        }
        if (n < 1 || n > MOST_MORNINGS) {
            return BAD_FAR;
        }
        int gain = 0;
        int noneStood = 0;
        then.folk.become(held.folk);
        for (int i = 0; i < n; i++) {
            searchThen();
            int day = then.comingDay();
            gain += then.gainOfAll(day);
            noneStood += then.stood == 0 ? 1 : 0;
            then.folk.endMorning(day, newestTown().noteHours);
        }
        return what == 0 ? gain : noneStood;
    }

    // ---- bets, secrets

    public int bet(int person, int hour, int part) {
        if (!held.folk.has(person) || !isHour(hour) || !isPart(part)) {
            return NONE;
        }
        searchNow();
        int does = now.stoodWith(HOURS * person + hour);
        if (does == 0) {
            // 0 by 1.
            return part;
        }
        int common = commonDivisor(does, now.stood);
        return (part == 0 ? does : now.stood) / Math.max(common, 1);
    }

    public int sure() {
        searchNow();
        if (now.stood == 0) {
            return NOT_THERE;
        }
        int found = NOT_THERE;
        int fewest = MOST_PEOPLE + 1;
        for (int set = 0; set < 1 << held.folk.people; set++) {
            int size = Integer.bitCount(set);
            if (size < fewest) {
                tellThen(set);
                searchThen();
                found = then.stood == 1 ? set : found;
                fewest = then.stood == 1 ? size : fewest;
            }
        }
        return found;
    }

    public int secret(int person, int what) {
        if (!held.folk.has(person) || !isPart(what)) {
            return NONE;
        }
        then.folk.become(held.folk);
        then.folk.kind[person] = STRANGER;
        searchThen();
        if (what == 0) {
            return then.chosen;
        }
        searchNow();
        if (then.stood == 0 || now.stood == 0) {
            return NOT_THERE;
        }
        return Integer.bitCount(ownRow(person, then.chosen) ^ ownRow(person, now.chosen));
    }

    public int swap(int what) {
        if (!isPart(what)) {
            return NONE;
        }
        searchNow();
        int pairs = 0;
        int first = NOT_THERE;
        for (int one = 0; one < held.folk.people; one++) {
            for (int other = one + 1; other < held.folk.people; other++) {
                then.folk.become(held.folk);
                then.folk.exchange(one, other);
                searchThen();
                if (wouldRather(one, other)) {
                    first = pairs == 0 ? 10 * one + other : first;
                    pairs++;
                }
            }
        }
        return what == 0 ? pairs : first;
    }

    // ---- books

    public int book(int day) {
        if (day == -1) {
            held.booked = 0;
            return 0;
        }
        if (!held.folk.isDay(day)) {
            return BAD;
        }
        if (held.booked < 0 || held.booked >= held.book.length) {
            return FULL;
        }
        held.book[held.booked] = day;
        held.booked++;
        return held.booked;
    }

    public int looked(int what) {
        if (!isPart(what)) {
            return NONE;
        }
        now.prepare(newestTown());
        int standing = 0;
        int first = NOT_THERE;
        for (int i = 0; i < held.booked && i < held.book.length; i++) {
            if (now.stands(held.book[i])) {
                standing++;
            } else if (first < 0) {
                first = held.book[i];
            }
        }
        return what == 0 ? standing : first;
    }

    // ---- acts, the image

    public int act(int person, int act, int x) {
        acts.clear();
        if (!held.folk.has(person) || act < 0 || act >= Acts.KINDS_OF_ACT) {
            return 0;
        }
        return acts.start(held.folk, person, act, x);
    }

    public int trace(int i) {
        if (i < 0 || i >= acts.ran || i >= acts.bodies.length) {
            return NONE;
        }
        return acts.bodies[i];
    }

    public int as(int person, int k) {
        if (!held.folk.has(person) || k < 0 || k >= KINDS) {
            return NONE;
        }
        int kind = held.folk.kind[person];
        for (int up = 0; up < KINDS && kind >= 0 && kind < KINDS; up++) {
            if (kind == k) {
                return held.folk.v[person];
            }
            kind = KIND_ABOVE[kind];
        }
        return OTHER_KIND;
    }

    public int image() {
        saved.become(held);
        isSaved = true;
        return held.folk.people;
    }

    public int undo() {
        if (!isSaved) {
            return STATE;
        }
        held.become(saved);
        forgetTowns();
        return held.folk.people;
    }

    public int count(int what) {
        switch (what) {
            case 0:
                return held.folk.people;
            case 1:
                return held.towns;
            case 2:
                return held.booked;
            case 3:
                return held.signs;
            case 4:
                return acts.ran;
            default:
                return NONE;
        }
    }

    // ---- helpers

    private static boolean isHour(int hour) {
        return hour >= 0 && hour < HOURS;
    }

    private static boolean isPart(int what) {
        return what == 0 || what == 1;
    }

    private static int bit(int bits, int place) {
        return bits >> place & 1;
    }

    private static int ownRow(int person, int day) {
        return day >> HOURS * person & ROWS - 1;
    }

    private static int commonDivisor(int a, int b) {
        // The lesser number at least halves every two steps, so an int is through long before.
        for (int step = 0; step < 100 && b != 0; step++) {
            int rest = a % b;
            a = b;
            b = rest;
        }
        return a;
    }

    private Town newestTown() {
        int newest = held.towns - 1;
        if (newest < 0 || newest >= towns.length || towns[newest] == null) {
            return noTown;
        }
        return towns[newest];
    }

    private void forgetTowns() {
        now.forgetTown();
        then.forgetTown();
    }

    private void searchNow() {
        now.prepare(newestTown());
        now.search();
    }

    private void searchThen() {
        then.forget();
        then.prepare(newestTown());
        then.search();
    }

    private int placeOnPath(int day, int size) {
        for (int i = 0; i < size && i < path.length; i++) {
            if (path[i] == day) {
                return i;
            }
        }
        return NOT_THERE;
    }

    private void tellThen(int set) {
        then.folk.become(held.folk);
        for (int person = 0; person < held.folk.people; person++) {
            if (bit(set, person) == 1) {
                then.folk.kind[person] = TOLD;
                then.folk.row[person] = ownRow(person, now.chosen);
            }
        }
    }

    /** Whether two would rather be as they are in the folk of then, which has been searched. */
    private boolean wouldRather(int one, int other) {
        if (then.stood == 0) {
            return false;
        }
        // Where no day stands now, there is no gain that a day would have to be better than.
        return now.stood == 0 || isBetterThen(one) && isBetterThen(other);
    }

    private boolean isBetterThen(int person) {
        int gainThen = then.gain(person, then.sightOf(person, then.chosen));
        return gainThen > now.gain(person, now.sightOf(person, now.chosen));
    }

    /** The people, and what they carry from one day into the next. */
    private static final class Folk {
        private final int[] kind = new int[MOST_PEOPLE];
        private final int[] v = new int[MOST_PEOPLE];
        // 0 for all who are not TOLD, so that one who becomes TOLD starts from 0.
        private final int[] row = new int[MOST_PEOPLE];
        private int people;
        private int notes;
        private int yesterday;

        private boolean has(int person) {
            return person >= 0 && person < people && person < MOST_PEOPLE;
        }

        private int allDays() {
            return 1 << HOURS * people;
        }

        private boolean isDay(int day) {
            return day >= 0 && day < allDays();
        }

        private int join(int itsKind, int itsV) {
            if (people < 0 || people >= MOST_PEOPLE) {
                return FULL;
            }
            kind[people] = itsKind;
            v[people] = itsV;
            row[people] = 0;
            putNote(people, false);
            people++;
            return people - 1;
        }

        private int noteOf(int person) {
            return notes >> person & 1;
        }

        private void putNote(int person, boolean is) {
            notes = is ? notes | 1 << person : notes & ~(1 << person);
        }

        private void exchange(int one, int other) {
            if (!has(one) || !has(other)) {
                return;
            }
            int keptKind = kind[one];
            int keptV = v[one];
            kind[one] = kind[other];
            v[one] = v[other];
            kind[other] = keptKind;
            v[other] = keptV;
        }

        private void endMorning(int day, int noteHours) {
            yesterday = day;
            for (int person = 0; person < people; person++) {
                putNote(person, Integer.bitCount(ownRow(person, day)) >= noteHours);
            }
        }

        private void become(Folk other) {
            System.arraycopy(other.kind, 0, kind, 0, MOST_PEOPLE);
            System.arraycopy(other.v, 0, v, 0, MOST_PEOPLE);
            System.arraycopy(other.row, 0, row, 0, MOST_PEOPLE);
            people = other.people;
            notes = other.notes;
            yesterday = other.yesterday;
        }
    }

    /** All that the image keeps. The towns stand in their array: an image needs only how many there were. */
    private static final class Held {
        private final Folk folk = new Folk();
        private final int[] tape = new int[MOST_SIGNS];
        private final int[] book = new int[MOST_DAYS_IN_BOOK];
        private int signs;
        private int booked;
        private int towns;

        private void become(Held other) {
            folk.become(other.folk);
            System.arraycopy(other.tape, 0, tape, 0, MOST_SIGNS);
            System.arraycopy(other.book, 0, book, 0, MOST_DAYS_IN_BOOK);
            signs = other.signs;
            booked = other.booked;
            towns = other.towns;
        }
    }

    /** A town: it reads its text once, and keeps each clause as tests with the signs that join them behind. */
    private static final class Town {
        private static final int MOST_CLAUSES = 8;
        private static final int MOST_OPEN = 5;
        private static final int END = -1;
        private static final int NO_FAULT = -1;
        private static final int OR = -1;
        private static final int AND = -2;
        private static final int NOT = -3;
        private static final int NUMBERS = 100;
        private static final String DIGITS = "0123456789";
        private static final String LETTERS = "hpmnyk";
        private static final String COMPARES = "<=>";

        private final int[] text = new int[MOST_SIGNS];
        private int size;
        private int at;
        // A test is (3 x its letter + its compare) x 100 + its number; OR, AND, NOT stand behind what they join.
        private final int[] code = new int[MOST_SIGNS];
        private int codes;
        private final int[] amount = new int[MOST_CLAUSES];
        private final int[] codeEnd = new int[MOST_CLAUSES];
        private int clauses;
        private int noteHours;

        /** Reads the town from a tape: NO_FAULT, or the place of the fault. */
        private int read(int[] tape, int signs) {
            size = Math.max(0, Math.min(signs, MOST_SIGNS));
            System.arraycopy(tape, 0, text, 0, Math.min(tape.length, MOST_SIGNS));
            at = 0;
            codes = 0;
            clauses = 0;
            noteHours = 0;
            for (int left = MOST_CLAUSES - 1; left >= 0; left--) {
                if (!readClause()) {
                    return at;
                }
                if (at >= size) {
                    return NO_FAULT;
                }
                if (left == 0 || !take(';')) {
                    return at;
                }
            }
            return at;
        }

        private int sign() {
            return at >= 0 && at < size && at < MOST_SIGNS ? text[at] : END;
        }

        private boolean take(int sign) {
            if (sign() != sign) {
                return false;
            }
            at++;
            return true;
        }

        private int takeOneOf(String signs) {
            int sign = sign();
            for (int i = 0; i < signs.length(); i++) {
                if (signs.charAt(i) == sign) {
                    at++;
                    return i;
                }
            }
            return NONE;
        }

        private boolean takeWord(String word) {
            for (int i = 0; i < word.length(); i++) {
                if (!take(word.charAt(i))) {
                    return false;
                }
            }
            return take(' ');
        }

        private boolean readClause() {
            boolean isNote = sign() == 'n';
            boolean isHarm = sign() == 'h';
            if (!takeWord(isNote ? "note" : isHarm ? "harm" : "good")) {
                return false;
            }
            int n = readNumber();
            if (n < 0) {
                return false;
            }
            if (isNote) {
                noteHours = n;
                return true;
            }
            if (!take(' ') || !readAny(0)) {
                return false;
            }
            keepClause(isHarm ? -n : n);
            return true;
        }

        private void keepClause(int worth) {
            if (clauses >= 0 && clauses < MOST_CLAUSES) {
                amount[clauses] = worth;
                codeEnd[clauses] = codes;
                clauses++;
            }
        }

        private void keepCode(int what) {
            if (codes >= 0 && codes < MOST_SIGNS) {
                code[codes] = what;
                codes++;
            }
        }

        private int readNumber() {
            int first = takeOneOf(DIGITS);
            if (first <= 0) {
                return first;
            }
            int second = takeOneOf(DIGITS);
            return second < 0 ? first : 10 * first + second;
        }

        private boolean readAny(int open) {
            for (int part = 0; part < MOST_SIGNS; part++) {
                if (!readBoth(open)) {
                    return false;
                }
                if (part > 0) {
                    keepCode(OR);
                }
                if (!take('|')) {
                    return true;
                }
            }
            return false;
        }

        private boolean readBoth(int open) {
            for (int part = 0; part < MOST_SIGNS; part++) {
                if (!readFactor(open)) {
                    return false;
                }
                if (part > 0) {
                    keepCode(AND);
                }
                if (!take('&')) {
                    return true;
                }
            }
            return false;
        }

        private boolean readFactor(int open) {
            if (sign() != '!' && sign() != '(') {
                return readTest();
            }
            if (open >= MOST_OPEN) {
                return false;
            }
            if (take('(')) {
                return readAny(open + 1) && take(')');
            }
            at++;
            if (!readFactor(open + 1)) {
                return false;
            }
            keepCode(NOT);
            return true;
        }

        private boolean readTest() {
            int letter = takeOneOf(LETTERS);
            if (letter < 0) {
                return false;
            }
            int compare = takeOneOf(COMPARES);
            if (compare < 0) {
                return false;
            }
            int number = readNumber();
            if (number < 0) {
                return false;
            }
            keepCode((letter * 3 + compare) * NUMBERS + number);
            return true;
        }

        /** What doing it is worth, where each letter has its number of facts. */
        private int worth(int[] facts) {
            int sum = 0;
            int from = 0;
            for (int i = 0; i < clauses && i < MOST_CLAUSES; i++) {
                if (holds(from, codeEnd[i], facts)) {
                    sum += amount[i];
                }
                from = codeEnd[i];
            }
            return sum;
        }

        private boolean holds(int from, int to, int[] facts) {
            // The bits are a stack, its top at bit 0: with 5 open signs at most it stays under 32 deep.
            int stack = 0;
            for (int i = Math.max(from, 0); i < to && i < MOST_SIGNS; i++) {
                switch (code[i]) {
                    case OR:
                        stack = stack >>> 1 | stack & 1;
                        break;
                    case AND:
                        stack = stack >>> 1 & (stack | ~1);
                        break;
                    case NOT:
                        stack ^= 1;
                        break;
                    default:
                        stack = stack << 1 | (passes(code[i], facts) ? 1 : 0);
                        break;
                }
            }
            return (stack & 1) == 1;
        }

        private static boolean passes(int test, int[] facts) {
            int letter = test / NUMBERS / 3;
            if (letter < 0 || letter >= facts.length) {
                return false;
            }
            int number = test % NUMBERS;
            switch (test / NUMBERS % 3) {
                case 0:
                    return facts[letter] < number;
                case 1:
                    return facts[letter] == number;
                default:
                    return facts[letter] > number;
            }
        }
    }

    /**
     * What folk would do, remembering each day, and which days stand. All that a day tells one is a SIGHT:
     * bits 0 to 2 its own hours, then two bits an hour: how many others do it.
     */
    private static final class Days {
        private static final int SIGHTS = ROWS << 2 * HOURS;
        // None of the others up to all of them: as many counts as there are people.
        private static final int COUNTS = MOST_PEOPLE;
        private static final int CASES = HOURS * COUNTS * COUNTS * 2;
        // One hour's bits of all the people.
        private static final int ALL_AT_HOUR = 1 | 1 << HOURS | 1 << 2 * HOURS | 1 << 3 * HOURS;

        private final Folk folk;
        // What doing it is worth to one in each case: the hour, others in it, others in the hour ahead, and y.
        private final int[][] worths = new int[MOST_PEOPLE][CASES];
        // The kind for which the worths of each were worked out, NONE for those that are stale.
        private final int[] worthsKind = new int[MOST_PEOPLE];
        // In the order of the letters: h, p, m, n, y, k.
        private final int[] facts = new int[6];
        // What one would do at each sight: by the others' counts, the rows for each of its own eight.
        private final int[][] replies = new int[MOST_PEOPLE][SIGHTS / ROWS];
        private boolean isPrepared;
        private boolean isSearched;
        private int stood;
        private int least;
        private int greatest;
        private int chosen;
        private int chosenGain;

        private Days(Folk itsFolk) {
            folk = itsFolk;
            for (int person = 0; person < MOST_PEOPLE; person++) {
                worthsKind[person] = NONE;
            }
        }

        private void forget() {
            isPrepared = false;
            isSearched = false;
        }

        private void forgetTown() {
            forget();
            for (int person = 0; person < MOST_PEOPLE; person++) {
                worthsKind[person] = NONE;
            }
        }

        /** Works out what each would do at each sight; due ahead of all that is asked of the days. */
        private void prepare(Town town) {
            if (isPrepared) {
                return;
            }
            for (int person = 0; person < folk.people && person < MOST_PEOPLE; person++) {
                fillWorths(person, town);
                int past = sightOf(person, folk.yesterday);
                for (int counts = 0; counts < SIGHTS / ROWS; counts++) {
                    int rows = 0;
                    int row = 0;
                    for (int own = 0; own < ROWS; own++) {
                        // To one who does what is best, it does not matter what it is told to do itself.
                        if (own == 0 || folk.kind[person] != BEST) {
                            row = rowAt(person, counts * ROWS + own, past);
                        }
                        rows |= row << HOURS * own;
                    }
                    replies[person][counts] = rows;
                }
            }
            isPrepared = true;
        }

        private void fillWorths(int person, Town town) {
            if (person < 0 || person >= MOST_PEOPLE || worthsKind[person] == folk.kind[person]) {
                return;
            }
            facts[1] = person;
            facts[5] = folk.kind[person];
            for (int place = 0; place < CASES; place++) {
                facts[0] = place / (2 * COUNTS * COUNTS);
                facts[3] = place / (2 * COUNTS) % COUNTS;
                facts[2] = place / 2 % COUNTS;
                facts[4] = place % 2;
                worths[person][place] = town.worth(facts);
            }
            worthsKind[person] = folk.kind[person];
        }

        private int sightOf(int person, int day) {
            int sight = ownRow(person, day);
            int others = ALL_AT_HOUR & ~(1 << HOURS * person);
            for (int hour = 0; hour < HOURS; hour++) {
                sight |= Integer.bitCount(day >> hour & others) << HOURS + 2 * hour;
            }
            return sight & SIGHTS - 1;
        }

        private int worth(int person, int hour, int sight) {
            if (person < 0 || person >= MOST_PEOPLE || hour < 0 || hour >= HOURS) {
                return 0;
            }
            // In a sight the counts of the hour ahead and of this one stand side by side, as in a place.
            int counts = hour == 0 ? sight >> HOURS << 2 & 12 : sight >> HOURS + 2 * (hour - 1) & 15;
            int y = (hour == 0 ? folk.notes >> person : sight >> hour - 1) & 1;
            int place = (hour * COUNTS * COUNTS + counts) * 2 + y;
            return place >= 0 && place < CASES ? worths[person][place] : 0;
        }

        private int gain(int person, int sight) {
            int sum = 0;
            for (int hour = 0; hour < HOURS; hour++) {
                if (bit(sight, hour) == 1) {
                    sum += worth(person, hour, sight);
                }
            }
            return sum;
        }

        private int rowAt(int person, int sight, int past) {
            int kind = folk.kind[person];
            if (kind == TOLD) {
                return folk.row[person];
            }
            if (kind == BEST) {
                return bestRow(person, sight);
            }
            int row = 0;
            for (int hour = 0; hour < HOURS; hour++) {
                if (would(person, hour, sight, past)) {
                    row |= 1 << hour;
                }
            }
            return row;
        }

        private int bestRow(int person, int sight) {
            int bare = sight & -ROWS;
            int best = 0;
            // Doing nothing gains 0.
            int most = 0;
            for (int row = 1; row < ROWS; row++) {
                int gain = gain(person, bare | row);
                if (gain > most) {
                    most = gain;
                    best = row;
                }
            }
            return best;
        }

        private boolean would(int person, int hour, int sight, int past) {
            boolean isTold = bit(sight, hour) == 1;
            int v = folk.v[person];
            switch (folk.kind[person]) {
                case PLAIN:
                    return isTold && worth(person, hour, sight) >= -v;
                case STRANGER:
                    return worth(person, hour, past) > 0;
                case PACT:
                    return (sight >> HOURS + 2 * hour & 3) >= v || isTold && worth(person, hour, sight) >= -v;
                case CONTRARY:
                    return hour == v % HOURS ? !isTold : worth(person, hour, past) > 0;
                default:
                    return worth(person, hour, sight) > 0;
            }
        }

        private int answerOf(int person, int day) {
            if (!folk.has(person)) {
                return 0;
            }
            int sight = sightOf(person, day);
            return replies[person][sight / ROWS] >> HOURS * (sight & ROWS - 1) & ROWS - 1;
        }

        private int answer(int day) {
            int answer = 0;
            for (int person = 0; person < folk.people; person++) {
                answer |= answerOf(person, day) << HOURS * person;
            }
            return answer;
        }

        private int firstOtherwise(int day) {
            for (int person = 0; person < folk.people; person++) {
                int otherwise = answerOf(person, day) ^ ownRow(person, day);
                for (int hour = 0; hour < HOURS && otherwise != 0; hour++) {
                    if (bit(otherwise, hour) == 1) {
                        return 10 * person + hour;
                    }
                }
            }
            return NOT_THERE;
        }

        private boolean stands(int day) {
            return firstOtherwise(day) == NOT_THERE;
        }

        private int gainOfAll(int day) {
            int sum = 0;
            for (int person = 0; person < folk.people; person++) {
                sum += gain(person, sightOf(person, day));
            }
            return sum;
        }

        /** Looks at all days; prepare() comes ahead of it. */
        private void search() {
            if (isSearched) {
                return;
            }
            stood = 0;
            least = NOT_THERE;
            greatest = NOT_THERE;
            chosen = NOT_THERE;
            int days = folk.allDays();
            for (int day = 0; day < days; day++) {
                if (stands(day)) {
                    addStanding(day);
                }
            }
            isSearched = true;
        }

        private void addStanding(int day) {
            int gain = gainOfAll(day);
            if (stood == 0 || gain > chosenGain) {
                chosen = day;
                chosenGain = gain;
            }
            if (stood == 0) {
                least = day;
            }
            greatest = day;
            stood++;
        }

        /** The day of the next morning; search() comes ahead of it. */
        private int comingDay() {
            return stood > 0 ? chosen : answer(folk.yesterday);
        }

        private int stoodWith(int place) {
            int sum = 0;
            int days = folk.allDays();
            for (int day = 0; day < days; day++) {
                if (bit(day, place) == 1 && stands(day)) {
                    sum++;
                }
            }
            return sum;
        }
    }

    /** The acts: each runs the body of its kind, or of the next kind above that has one. */
    private static final class Acts {
        private static final int KINDS_OF_ACT = 3;
        private static final int KNOWS = 0;
        private static final int DOES = 1;
        private static final int TELLS = 2;
        private static final int MOST_KEPT = 20;
        private static final int DEEPEST = 40;
        // By kind, then act; 0 where the kind has no body of its own.
        private static final int[] BODY = {
            1, 2, 3,
            11, 0, 0,
            0, 21, 0,
            0, 0, 31,
            0, 0, 41,
            51, 0, 0,
            0, 61, 0};

        private final int[] bodies = new int[MOST_KEPT];
        private int ran;
        private int self;
        private int kind;
        private int v;

        private void clear() {
            ran = 0;
        }

        private int start(Folk folk, int person, int act, int x) {
            if (!folk.has(person)) {
                return 0;
            }
            self = person;
            kind = folk.kind[person];
            v = folk.v[person];
            return ask(kind, act, x, 0);
        }

        private static int bodyOf(int from, int act) {
            int up = from;
            for (int i = 0; i < KINDS && up >= 0 && up < KINDS; i++) {
                int place = up * KINDS_OF_ACT + act;
                if (place >= 0 && place < BODY.length && BODY[place] != 0) {
                    return BODY[place];
                }
                up = KIND_ABOVE[up];
            }
            return 0;
        }

        private void begin(int body) {
            if (ran >= 0 && ran < MOST_KEPT) {
                bodies[ran] = body;
            }
            ran++;
        }

        /** Runs the body that the kind `from`, or the next above it, has for the act. */
        private int ask(int from, int act, int x, int depth) {
            int body = bodyOf(from, act);
            if (body == 0 || depth > DEEPEST) {
                return 0;
            }
            begin(body);
            int deeper = depth + 1;
            switch (body) {
                case 1:
                    return x + self;
                case 2:
                    return ask(kind, KNOWS, x, deeper) - v;
                case 3:
                    return ask(kind, DOES, x, deeper) * 2;
                case 11:
                    return ask(DOER, KNOWS, x * 3, deeper);
                case 21:
                    return -ask(DOER, DOES, x, deeper);
                case 31:
                    return ask(DOER, TELLS, x, deeper) ^ 7;
                case 41:
                    return ask(PLAIN, TELLS, x - 1, deeper) + ask(kind, KNOWS, 2, deeper);
                case 51:
                    return ask(STRANGER, KNOWS, x, deeper) ^ self;
                case 61:
                    return ask(STRANGER, DOES, x, deeper) + v;
                default:
                    return 0;
            }
        }
    }
}
