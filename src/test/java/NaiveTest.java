import java.util.ArrayList;
import java.util.HashMap;
import java.util.List;
import java.util.Map;

/** Random runs of calls, each answer held against a second, slow program that is written along the document. */
public final class NaiveTest {
    private static long seed = 20261118;

    public static void main(String[] args) {
        faults();
        for (int run = 0; run < 1600; run++) {
            run(run, 511, run % 8 == 0 ? 4 : run % 8 < 3 ? 3 : 2);
        }
        Due.end();
    }

    // ---- random

    private static int upTo(int n) {
        seed = seed * 6364136223846793005L + 1442695040888963407L;
        return (int) ((seed >>> 33) % (n + 1));
    }

    private static String number() {
        return "" + (upTo(5) == 0 ? upTo(99) : upTo(3));
    }

    private static String factor(int open) {
        int kind = upTo(9);
        if (open < 5 && kind == 0) {
            return "!" + factor(open + 1);
        }
        if (open < 5 && kind == 1) {
            return "(" + either(open + 1) + ")";
        }
        return "" + "hpmnyk".charAt(upTo(5)) + "<=>".charAt(upTo(2)) + number();
    }

    private static String either(int open) {
        StringBuilder text = new StringBuilder(factor(open));
        for (int more = upTo(5) - 3; more > 0; more--) {
            text.append("&|".charAt(upTo(1))).append(factor(open));
        }
        return text.toString();
    }

    private static String townText() {
        StringBuilder text = new StringBuilder();
        for (int clauses = 1 + upTo(5); clauses > 0; clauses--) {
            text.append(text.length() > 0 ? ";" : "");
            if (upTo(5) == 0) {
                text.append("note ").append(upTo(3));
            } else {
                text.append(upTo(2) > 0 ? "good " : "harm ").append(number()).append(' ').append(either(0));
            }
        }
        while (text.length() > 100) {
            int cut = text.lastIndexOf(";");
            text.setLength(cut < 0 ? 100 : cut);
        }
        return text.toString();
    }

    private static String broken(String text) {
        StringBuilder out = new StringBuilder(text);
        String signs = "goodharmnote hpmnyk<=>0123456789!()&|;x";
        for (int times = 1 + upTo(1); times > 0; times--) {
            int at = upTo(out.length());
            int how = upTo(3);
            if (how == 0) {
                out.setLength(at);
            } else if (how == 1 && at < out.length()) {
                out.deleteCharAt(at);
            } else if (how == 2 && at < out.length()) {
                out.setCharAt(at, signs.charAt(upTo(signs.length() - 1)));
            } else {
                out.insert(at, signs.charAt(upTo(signs.length() - 1)));
            }
        }
        out.setLength(Math.min(out.length(), 100));
        return out.toString();
    }

    private static void faults() {
        for (int i = 0; i < 4000; i++) {
            String text = broken(townText());
            Due.is("town of '" + text + "'", Due.town(new DayKnown(), text), Slow.townAnswer(text, 0));
        }
    }

    // ---- runs

    private static void run(int run, int calls, int mostPeople) {
        DayKnown x = new DayKnown();
        Slow y = new Slow();
        StringBuilder log = new StringBuilder("run " + run + ":");
        int left = calls;
        while (left > 0) {
            int kind = upTo(4);
            if (kind == 0 && y.towns < 5 && upTo(2) == 0) {
                String text = upTo(4) == 0 ? broken(townText()) : townText();
                for (int i = 0; i < text.length() && left > 1; i++, left--) {
                    Due.is(log + " feed", x.feed(text.charAt(i)), y.feed(text.charAt(i)));
                }
                log.append(" '").append(text).append("'");
            }
            int before = log.length();
            int[] answers = kind < 2 ? change(x, y, log, mostPeople) : ask(x, y, log);
            Due.is(log.toString(), answers[0], answers[1]);
            if (kind >= 2) {
                log.setLength(before);
            }
            left--;
        }
    }

    private static int aDay(Slow y) {
        int days = 1 << 3 * y.kind.size();
        return upTo(15) == 0 ? upTo(2 * days) - days / 2 : upTo(days - 1);
    }

    private static int about(int most) {
        return upTo(most + 1) - (upTo(9) == 0 ? 1 : 0);
    }

    private static int one(Slow y) {
        return upTo(9) == 0 ? about(4) : upTo(Math.max(0, y.kind.size() - 1));
    }

    private static int[] change(DayKnown x, Slow y, StringBuilder log, int mostPeople) {
        int a = upTo(11);
        int person = one(y);
        int day = aDay(y);
        switch (a) {
            case 0:
            case 1:
            case 2: {
                int kind = about(6);
                int v = upTo(1) == 0 ? upTo(3) : about(9);
                if (y.kind.size() >= mostPeople && upTo(3) > 0) {
                    v = 10;
                }
                if (y.kind.size() >= mostPeople && mostPeople < 4) {
                    kind = 7;
                }
                log.append(" person(" + kind + "," + v + ")");
                return new int[] {x.person(kind, v), y.person(kind, v)};
            }
            case 3:
                log.append(" town()");
                return new int[] {x.town(), y.town()};
            case 4:
            case 5: {
                int hours = about(7);
                log.append(" row(" + person + "," + hours + ")");
                return new int[] {x.row(person, hours), y.row(person, hours)};
            }
            case 6: {
                boolean is = upTo(1) == 0;
                log.append(" note(" + person + "," + is + ")");
                return new int[] {x.note(person, is), y.note(person, is)};
            }
            case 7:
                log.append(" yesterday(" + day + ")");
                return new int[] {x.yesterday(day), y.yesterday(day)};
            case 8:
                log.append(" morning()");
                return new int[] {x.morning(), y.morning()};
            case 9:
                day = upTo(30) == 0 ? -1 : day;
                log.append(" book(" + day + ")");
                return new int[] {x.book(day), y.book(day)};
            case 10:
                if (upTo(2) == 0) {
                    log.append(" image()");
                    return new int[] {x.image(), y.image()};
                }
                return new int[] {0, 0};
            default:
                if (upTo(2) == 0) {
                    log.append(" undo()");
                    return new int[] {x.undo(), y.undo()};
                }
                return new int[] {0, 0};
        }
    }

    private static int[] ask(DayKnown x, Slow y, StringBuilder log) {
        int a = upTo(17);
        int day = aDay(y);
        int p = one(y);
        int h = about(2);
        int w = about(1);
        switch (a) {
            case 0: {
                int what = about(3);
                log.append(" of(" + p + "," + what + ")");
                return new int[] {x.of(p, what), y.of(p, what)};
            }
            case 1: {
                int what = about(2);
                log.append(" told(" + what + ")");
                return new int[] {x.told(what), y.told(what)};
            }
            case 2:
            case 3: {
                int what = about(2);
                log.append(" by(" + day + "," + p + "," + h + "," + what + ")");
                return new int[] {x.by(day, p, h, what), y.by(day, p, h, what)};
            }
            case 4: {
                int what = about(2);
                log.append(" day(" + day + "," + what + ")");
                return new int[] {x.day(day, what), y.day(day, what)};
            }
            case 5: {
                int what = about(4);
                log.append(" all(" + what + ")");
                return new int[] {x.all(what), y.all(what)};
            }
            case 6:
                log.append(" once(" + day + "," + p + "," + h + "," + w + ")");
                return new int[] {x.once(day, p, h, w), y.once(day, p, h, w)};
            case 7:
                log.append(" again(" + day + "," + w + ")");
                return new int[] {x.again(day, w), y.again(day, w)};
            case 8: {
                int n = upTo(9) == 0 ? about(30) : upTo(4);
                log.append(" year(" + n + "," + w + ")");
                return new int[] {x.year(n, w), y.year(n, w)};
            }
            case 9:
                log.append(" bet(" + p + "," + h + "," + w + ")");
                return new int[] {x.bet(p, h, w), y.bet(p, h, w)};
            case 10:
                log.append(" sure()");
                return new int[] {x.sure(), y.sure()};
            case 11:
                log.append(" secret(" + p + "," + w + ")");
                return new int[] {x.secret(p, w), y.secret(p, w)};
            case 12:
                log.append(" swap(" + w + ")");
                return new int[] {x.swap(w), y.swap(w)};
            case 13:
                log.append(" looked(" + w + ")");
                return new int[] {x.looked(w), y.looked(w)};
            case 14:
                log.append(" as(" + p + "," + a + ")");
                return new int[] {x.as(p, h + 3 * w), y.as(p, h + 3 * w)};
            case 15: {
                int what = about(4);
                log.append(" count(" + what + ")");
                return new int[] {x.count(what), y.count(what)};
            }
            case 16: {
                int act = about(2);
                int given = upTo(3) == 0 ? (int) seed : upTo(20) - 10;
                log.append(" act(" + p + "," + act + "," + given + ")");
                return new int[] {x.act(p, act, given), y.act(p, act, given)};
            }
            default:
                log.append(" trace(" + h + ")");
                return new int[] {x.trace(h), y.trace(h)};
        }
    }

    /** The second program. */
    private static final class Slow {
        final List<String> texts = new ArrayList<>();
        final List<Integer> kind = new ArrayList<>();
        final List<Integer> v = new ArrayList<>();
        final List<Integer> row = new ArrayList<>();
        final List<Boolean> note = new ArrayList<>();
        final List<Integer> book = new ArrayList<>();
        String tape = "";
        int towns;
        int yesterday;
        Slow image;
        List<Integer> trace = new ArrayList<>();
        // What was worth what, by its letters, as long as the town holds.
        Map<Integer, Integer> known = new HashMap<>();

        Slow copy() {
            Slow to = new Slow();
            to.put(this);
            to.known = known;
            return to;
        }

        void put(Slow from) {
            texts.clear();
            texts.addAll(from.texts);
            kind.clear();
            kind.addAll(from.kind);
            v.clear();
            v.addAll(from.v);
            row.clear();
            row.addAll(from.row);
            note.clear();
            note.addAll(from.note);
            book.clear();
            book.addAll(from.book);
            tape = from.tape;
            towns = from.towns;
            yesterday = from.yesterday;
        }

        // -- texts

        static boolean isNumber(String s) {
            return s.matches("0|[1-9][0-9]?");
        }

        static List<String> parts(String s, char at) {
            List<String> out = new ArrayList<>();
            int depth = 0;
            int from = 0;
            for (int i = 0; i < s.length(); i++) {
                depth += s.charAt(i) == '(' ? 1 : s.charAt(i) == ')' ? -1 : 0;
                if (depth == 0 && s.charAt(i) == at) {
                    out.add(s.substring(from, i));
                    from = i + 1;
                }
            }
            out.add(s.substring(from));
            return out;
        }

        static boolean isE(String s, int open) {
            for (String t : parts(s, '|')) {
                for (String f : parts(t, '&')) {
                    if (!isF(f, open)) {
                        return false;
                    }
                }
            }
            return true;
        }

        static boolean isF(String s, int open) {
            if (s.startsWith("!")) {
                return open < 5 && isF(s.substring(1), open + 1);
            }
            if (s.startsWith("(")) {
                return open < 5 && s.endsWith(")") && s.length() > 2 && isE(s.substring(1, s.length() - 1), open + 1);
            }
            return s.length() > 2 && "hpmnyk".indexOf(s.charAt(0)) >= 0 && "<=>".indexOf(s.charAt(1)) >= 0
                && isNumber(s.substring(2));
        }

        static boolean isClause(String s) {
            if (s.startsWith("note ")) {
                return isNumber(s.substring(5));
            }
            if (!s.startsWith("good ") && !s.startsWith("harm ")) {
                return false;
            }
            int blank = s.indexOf(' ', 5);
            return blank > 0 && isNumber(s.substring(5, blank)) && isE(s.substring(blank + 1), 0);
        }

        static boolean isTown(String s) {
            String[] clauses = s.split(";", -1);
            for (String clause : clauses) {
                if (!isClause(clause)) {
                    return false;
                }
            }
            return clauses.length <= 8;
        }

        static boolean canGoOn(String s) {
            String[] clauses = s.split(";", -1);
            for (int i = 0; i + 1 < clauses.length; i++) {
                if (!isClause(clauses[i])) {
                    return false;
                }
            }
            if (clauses.length > 8) {
                return false;
            }
            String last = clauses[clauses.length - 1];
            for (String word : new String[] {"good 1 n=1", "harm 1 n=1", "note 1"}) {
                if (word.startsWith(last)) {
                    return true;
                }
            }
            for (String end : new String[] {"", " n=1", "n=1", "=1", "1"}) {
                String brackets = "";
                for (int i = 0; i <= 5; i++) {
                    if (isClause(last + end + brackets)) {
                        return true;
                    }
                    brackets += ")";
                }
            }
            return false;
        }

        static int townAnswer(String s, int number) {
            if (isTown(s)) {
                return number;
            }
            for (int i = 0; i < s.length(); i++) {
                if (!canGoOn(s.substring(0, i + 1))) {
                    return -10 - i;
                }
            }
            return -10 - s.length();
        }

        boolean e(String s, int[] letters) {
            boolean any = false;
            for (String t : parts(s, '|')) {
                boolean both = true;
                for (String f : parts(t, '&')) {
                    both &= f(f, letters);
                }
                any |= both;
            }
            return any;
        }

        boolean f(String s, int[] letters) {
            if (s.startsWith("!")) {
                return !f(s.substring(1), letters);
            }
            if (s.startsWith("(")) {
                return e(s.substring(1, s.length() - 1), letters);
            }
            int is = letters["hpmnyk".indexOf(s.charAt(0))];
            int number = Integer.parseInt(s.substring(2));
            return s.charAt(1) == '<' ? is < number : s.charAt(1) == '=' ? is == number : is > number;
        }

        // -- days

        boolean does(int day, int p, int h) {
            return (day & 1 << 3 * p + h) != 0;
        }

        int others(int day, int p, int h) {
            int sum = 0;
            for (int q = 0; q < kind.size(); q++) {
                sum += q != p && does(day, q, h) ? 1 : 0;
            }
            return sum;
        }

        int worth(int day, int p, int h) {
            if (texts.isEmpty()) {
                return 0;
            }
            int m = h == 0 ? 0 : others(day, p, h - 1);
            boolean y = h == 0 ? note.get(p) : does(day, p, h - 1);
            int[] letters = {h, p, m, others(day, p, h), y ? 1 : 0, kind.get(p)};
            int key = 0;
            for (int letter : letters) {
                key = 10 * key + letter;
            }
            Integer before = known.get(key);
            if (before == null) {
                before = worth(texts.get(texts.size() - 1), letters);
                known.put(key, before);
            }
            return before;
        }

        int worth(String text, int[] letters) {
            int sum = 0;
            for (String clause : text.split(";")) {
                if (!clause.startsWith("note")) {
                    int blank = clause.indexOf(' ', 5);
                    int n = Integer.parseInt(clause.substring(5, blank));
                    if (e(clause.substring(blank + 1), letters)) {
                        sum += clause.startsWith("good") ? n : -n;
                    }
                }
            }
            return sum;
        }

        int gain(int day, int p) {
            int sum = 0;
            for (int h = 0; h < 3; h++) {
                sum += does(day, p, h) ? worth(day, p, h) : 0;
            }
            return sum;
        }

        int gainOfAll(int day) {
            int sum = 0;
            for (int p = 0; p < kind.size(); p++) {
                sum += gain(day, p);
            }
            return sum;
        }

        boolean plain(int day, int p, int h) {
            return does(day, p, h) && !(worth(day, p, h) < 0 - v.get(p));
        }

        boolean would(int day, int p, int h) {
            int number = v.get(p);
            boolean stranger = worth(yesterday, p, h) > 0;
            switch (kind.get(p)) {
                case 0:
                    return worth(day, p, h) > 0;
                case 1: {
                    int found = -1;
                    for (int own = 0; own < 8; own++) {
                        int like = day & ~(7 << 3 * p) | own << 3 * p;
                        if (found < 0 || gain(like, p) > gain(found, p)) {
                            found = like;
                        }
                    }
                    return does(found, p, h);
                }
                case 2:
                    return plain(day, p, h);
                case 3:
                    return stranger;
                case 4:
                    return others(day, p, h) >= number || plain(day, p, h);
                case 5:
                    return (h - number) % 3 == 0 ? !does(day, p, h) : stranger;
                default:
                    return (row.get(p) & 1 << h) != 0;
            }
        }

        int answer(int day) {
            int out = 0;
            for (int p = 0; p < kind.size(); p++) {
                for (int h = 0; h < 3; h++) {
                    out |= would(day, p, h) ? 1 << 3 * p + h : 0;
                }
            }
            return out;
        }

        int otherwise(int day) {
            for (int p = 0; p < kind.size(); p++) {
                for (int h = 0; h < 3; h++) {
                    if (would(day, p, h) != does(day, p, h)) {
                        return 10 * p + h;
                    }
                }
            }
            return -5;
        }

        List<Integer> standing() {
            List<Integer> out = new ArrayList<>();
            for (int day = 0; day < 1 << 3 * kind.size(); day++) {
                if (otherwise(day) == -5) {
                    out.add(day);
                }
            }
            return out;
        }

        int chosen() {
            int found = -5;
            for (int day : standing()) {
                if (found < 0 || gainOfAll(day) > gainOfAll(found)) {
                    found = day;
                }
            }
            return found;
        }

        boolean noOne(int p) {
            return p < 0 || p >= kind.size();
        }

        boolean noDay(int day) {
            return day < 0 || day >= 1 << 3 * kind.size();
        }

        static boolean outside(int n, int least, int greatest) {
            return n < least || n > greatest;
        }

        // -- calls

        int feed(int sign) {
            if (tape.length() == 100) {
                return -4;
            }
            tape += (char) sign;
            return tape.length();
        }

        int town() {
            if (towns == 5) {
                return -4;
            }
            int answer = townAnswer(tape, towns);
            if (answer >= 0) {
                texts.add(tape);
                known = new HashMap<>();
                towns++;
            }
            tape = "";
            return answer;
        }

        int noteHours() {
            int hours = 0;
            if (!texts.isEmpty()) {
                for (String clause : texts.get(texts.size() - 1).split(";")) {
                    hours = clause.startsWith("note") ? Integer.parseInt(clause.substring(5)) : hours;
                }
            }
            return hours;
        }

        int told(int what) {
            int notes = 0;
            for (int p = 0; p < kind.size(); p++) {
                notes += note.get(p) ? 1 << p : 0;
            }
            return what == 0 ? noteHours() : what == 1 ? yesterday : what == 2 ? notes : -1;
        }

        int person(int itsKind, int itsV) {
            if (outside(itsKind, 0, 6)) {
                return -1;
            }
            if (outside(itsV, 0, 9)) {
                return -2;
            }
            if (kind.size() == 4) {
                return -4;
            }
            kind.add(itsKind);
            v.add(itsV);
            row.add(0);
            note.add(false);
            return kind.size() - 1;
        }

        int of(int p, int what) {
            if (noOne(p) || outside(what, 0, 3)) {
                return -1;
            }
            return what == 0 ? kind.get(p) : what == 1 ? v.get(p)
                : what == 2 ? kind.get(p) == 6 ? row.get(p) : -5 : note.get(p) ? 1 : 0;
        }

        int row(int p, int hours) {
            if (noOne(p)) {
                return -1;
            }
            if (outside(hours, 0, 7)) {
                return -2;
            }
            return kind.get(p) != 6 ? -3 : row.set(p, hours);
        }

        int note(int p, boolean is) {
            return noOne(p) ? -1 : note.set(p, is) ? 1 : 0;
        }

        int yesterday(int day) {
            if (noDay(day)) {
                return -2;
            }
            int was = yesterday;
            yesterday = day;
            return was;
        }

        int by(int day, int p, int h, int what) {
            if (noOne(p) || outside(h, 0, 2) || outside(what, 0, 2)) {
                return -10001;
            }
            if (noDay(day)) {
                return -10002;
            }
            return what == 0 ? worth(day, p, h) : what == 1 ? would(day, p, h) ? 1 : 0 : gain(day, p);
        }

        int day(int day, int what) {
            if (outside(what, 0, 2)) {
                return -10001;
            }
            if (noDay(day)) {
                return -10002;
            }
            return what == 0 ? otherwise(day) : what == 1 ? answer(day) : gainOfAll(day);
        }

        int all(int what) {
            if (outside(what, 0, 4)) {
                return -10001;
            }
            List<Integer> days = standing();
            if (what == 0 || days.isEmpty()) {
                return what == 0 ? days.size() : -5;
            }
            return what == 1 ? days.get(0) : what == 2 ? days.get(days.size() - 1)
                : what == 3 ? chosen() : gainOfAll(chosen());
        }

        int once(int day, int p, int h, int what) {
            if (noOne(p) || outside(h, 0, 2) || outside(what, 0, 1)) {
                return -1;
            }
            if (noDay(day)) {
                return -2;
            }
            int next = does(day, p, h) ? day - (1 << 3 * p + h) : day + (1 << 3 * p + h);
            for (int on = 0; on <= 60; on++) {
                if (otherwise(next) == -5) {
                    return what == 0 ? on : next;
                }
                next = answer(next);
            }
            return -5;
        }

        int again(int day, int what) {
            if (outside(what, 0, 1)) {
                return -1;
            }
            if (noDay(day)) {
                return -2;
            }
            List<Integer> path = new ArrayList<>(List.of(day));
            for (int on = 1; on <= 200; on++) {
                int next = answer(path.get(on - 1));
                if (path.contains(next)) {
                    return what == 0 ? on : on - path.indexOf(next);
                }
                path.add(next);
            }
            return -5;
        }

        int dayOfMorning() {
            int day = chosen();
            return day >= 0 ? day : answer(yesterday);
        }

        int morning() {
            int day = dayOfMorning();
            yesterday = day;
            for (int p = 0; p < kind.size(); p++) {
                int hours = 0;
                for (int h = 0; h < 3; h++) {
                    hours += does(day, p, h) ? 1 : 0;
                }
                note.set(p, hours >= noteHours());
            }
            return day;
        }

        int year(int n, int what) {
            if (outside(what, 0, 1)) {
                return -10001;
            }
            if (outside(n, 1, 30)) {
                return -10002;
            }
            Slow on = copy();
            int sum = 0;
            int none = 0;
            for (int i = 0; i < n; i++) {
                sum += on.gainOfAll(on.dayOfMorning());
                none += on.chosen() < 0 ? 1 : 0;
                on.morning();
            }
            return what == 0 ? sum : none;
        }

        int bet(int p, int h, int part) {
            if (noOne(p) || outside(h, 0, 2) || outside(part, 0, 1)) {
                return -1;
            }
            int above = 0;
            List<Integer> days = standing();
            for (int day : days) {
                above += does(day, p, h) ? 1 : 0;
            }
            if (above == 0) {
                return part;
            }
            for (int by = above; by >= 1; by--) {
                if (above % by == 0 && days.size() % by == 0) {
                    return part == 0 ? above / by : days.size() / by;
                }
            }
            return -99;
        }

        int sure() {
            int day = chosen();
            if (day < 0) {
                return -5;
            }
            for (int size = 0; size <= kind.size(); size++) {
                for (int set = 0; set < 1 << kind.size(); set++) {
                    if (Integer.bitCount(set) == size) {
                        Slow like = copy();
                        for (int p = 0; p < kind.size(); p++) {
                            if ((set & 1 << p) != 0) {
                                like.kind.set(p, 6);
                                like.row.set(p, day >> 3 * p & 7);
                            }
                        }
                        if (like.standing().size() == 1) {
                            return set;
                        }
                    }
                }
            }
            return -5;
        }

        int secret(int p, int what) {
            if (noOne(p) || outside(what, 0, 1)) {
                return -1;
            }
            Slow like = copy();
            like.kind.set(p, 3);
            int then = like.chosen();
            if (what == 0) {
                return then;
            }
            int now = chosen();
            if (now < 0 || then < 0) {
                return -5;
            }
            int hours = 0;
            for (int h = 0; h < 3; h++) {
                hours += does(now, p, h) != does(then, p, h) ? 1 : 0;
            }
            return hours;
        }

        int swap(int what) {
            if (outside(what, 0, 1)) {
                return -1;
            }
            int now = chosen();
            int pairs = 0;
            int first = -5;
            for (int b = kind.size() - 1; b >= 0; b--) {
                for (int a = b - 1; a >= 0; a--) {
                    Slow like = copy();
                    like.kind.set(a, kind.get(b));
                    like.kind.set(b, kind.get(a));
                    like.v.set(a, v.get(b));
                    like.v.set(b, v.get(a));
                    int then = like.chosen();
                    if (then >= 0 && (now < 0
                        || like.gain(then, a) > gain(now, a) && like.gain(then, b) > gain(now, b))) {
                        pairs++;
                        first = first < 0 ? 10 * a + b : Math.min(first, 10 * a + b);
                    }
                }
            }
            return what == 0 ? pairs : first;
        }

        int book(int day) {
            if (day == -1) {
                book.clear();
                return 0;
            }
            if (noDay(day)) {
                return -2;
            }
            if (book.size() == 10) {
                return -4;
            }
            book.add(day);
            return book.size();
        }

        int looked(int what) {
            if (outside(what, 0, 1)) {
                return -1;
            }
            List<Integer> not = new ArrayList<>();
            for (int day : book) {
                if (otherwise(day) != -5) {
                    not.add(day);
                }
            }
            return what == 0 ? book.size() - not.size() : not.isEmpty() ? -5 : not.get(0);
        }

        int act(int p, int act, int given) {
            trace = new ArrayList<>();
            if (noOne(p) || outside(act, 0, 2)) {
                return 0;
            }
            Doer[] all = {new Doer(), new Best(), new Plain(), new Stranger(), new Pact(), new Contrary(), new Told()};
            Doer one = all[kind.get(p)];
            one.i = p;
            one.v = v.get(p);
            one.trace = trace;
            return act == 0 ? one.knows(given) : act == 1 ? one.does(given) : one.tells(given);
        }

        int trace(int i) {
            return outside(i, 0, Math.min(20, trace.size()) - 1) ? -1 : trace.get(i);
        }

        int as(int p, int k) {
            if (noOne(p) || outside(k, 0, 6)) {
                return -1;
            }
            Doer[] all = {new Doer(), new Best(), new Plain(), new Stranger(), new Pact(), new Contrary(), new Told()};
            return all[k].getClass().isInstance(all[kind.get(p)]) ? v.get(p) : -6;
        }

        int image() {
            image = copy();
            return kind.size();
        }

        int undo() {
            if (image == null) {
                return -3;
            }
            put(image);
            known = new HashMap<>();
            return kind.size();
        }

        int count(int what) {
            return what == 0 ? kind.size() : what == 1 ? towns : what == 2 ? book.size()
                : what == 3 ? tape.length() : what == 4 ? trace.size() : -1;
        }
    }

    // ---- the kinds, as Java has them

    private static class Doer {
        int i;
        int v;
        List<Integer> trace;

        int knows(int x) {
            trace.add(1);
            return x + i;
        }

        int does(int x) {
            trace.add(2);
            return knows(x) - v;
        }

        int tells(int x) {
            trace.add(3);
            return does(x) * 2;
        }
    }

    private static class Best extends Doer {
        int knows(int x) {
            trace.add(11);
            return super.knows(x * 3);
        }
    }

    private static class Plain extends Doer {
        int does(int x) {
            trace.add(21);
            return -super.does(x);
        }
    }

    private static class Stranger extends Doer {
        int tells(int x) {
            trace.add(31);
            return super.tells(x) ^ 7;
        }
    }

    private static class Pact extends Plain {
        int tells(int x) {
            trace.add(41);
            return super.tells(x - 1) + knows(2);
        }
    }

    private static class Contrary extends Stranger {
        int knows(int x) {
            trace.add(51);
            return super.knows(x) ^ i;
        }
    }

    private static class Told extends Stranger {
        int does(int x) {
            trace.add(61);
            return super.does(x) + v;
        }
    }
}
