import java.util.ArrayList;
import java.util.List;

/** Every refusal of every call: what it answers, which one of several, and that it changes nothing. */
public final class RefusalsTest {
    private static final int MIN = Integer.MIN_VALUE;
    private static final int MAX = Integer.MAX_VALUE;
    private static final int[] WRONG_HOURS = {-1, 3, 4, MIN, MAX};

    /** A call, or several one behind another, on an object. */
    private interface Calls {
        void on(DayKnown x);
    }

    /** How an object comes to stand as it does when the calls come. */
    private interface State {
        DayKnown make();
    }

    private final State state;
    private final String name;
    private final int people;
    private final List<Integer> untouched;

    private RefusalsTest(String itsName, State itsState) {
        name = itsName;
        state = itsState;
        people = state.make().count(0);
        untouched = probe(state.make());
    }

    public static void main(String[] args) {
        RefusalsTest fresh = new RefusalsTest("new", DayKnown::new);
        RefusalsTest some = new RefusalsTest("some", RefusalsTest::some);
        RefusalsTest full = new RefusalsTest("full", RefusalsTest::full);
        for (RefusalsTest test : List.of(fresh, some, full)) {
            test.none();
            test.noneOfDays();
            test.bad();
            test.badOfDays();
            test.severalOnes();
            test.severalOfDays();
            test.asking();
        }
        fresh.stateOfNew();
        some.stateOfSome();
        full.fullOfFull();
        theProbeSeesAll();
        actThatIsNone();
        townThatIsNone();
        Due.end();
    }

    // ---- the states

    /** Two people, a town and the start of another one on the tape, a book, an image of less, a trace. */
    private static DayKnown some() {
        DayKnown x = Due.people("good 5 h=0&n<2;harm 2 y=1|h=2;note 1", 6, 4);
        x.row(0, 3);
        x.yesterday(2);
        x.book(6);
        feed(x, "no");
        x.image();
        x.person(0, 1);
        feed(x, "te 2;");
        x.row(0, 5);
        x.note(1, true);
        x.yesterday(41);
        x.book(1);
        x.book(7);
        x.act(0, 2, 5);
        return x;
    }

    /** Four people, five towns, ten days in the book, a tape of 100 signs. */
    private static DayKnown full() {
        DayKnown x = Due.people("note 3", 6, 9, 0, 3, 4, 2, 3, 0);
        for (int i = 0; i < 3; i++) {
            Due.town(x, "note " + i);
        }
        x.image();
        Due.town(x, "good 4 n>0;harm 3 y=1&n<2;good 1 p=2;note 2");
        x.row(0, 6);
        x.note(2, true);
        x.note(3, true);
        x.yesterday(2925);
        for (int i = 0; i < 10; i++) {
            x.book(i * 409);
        }
        for (int i = 0; i < 100; i++) {
            x.feed('n');
        }
        x.act(2, 2, 7);
        return x;
    }

    private static void feed(DayKnown x, String text) {
        for (int i = 0; i < text.length(); i++) {
            x.feed(text.charAt(i));
        }
    }

    // ---- all that can be seen of an object

    private static List<Integer> probe(DayKnown x) {
        List<Integer> seen = new ArrayList<>();
        look(x, seen);
        // What stands on the tape shows when it becomes a town.
        seen.add(x.town());
        look(x, seen);
        seen.add(x.undo());
        look(x, seen);
        seen.add(x.town());
        seen.add(x.told(0));
        return seen;
    }

    private static void look(DayKnown x, List<Integer> seen) {
        for (int i = 0; i < 5; i++) {
            seen.add(x.count(i));
            seen.add(x.all(i));
        }
        for (int i = 0; i < 3; i++) {
            seen.add(x.told(i));
        }
        for (int i = 0; i < 7; i++) {
            seen.add(x.trace(i));
        }
        for (int person = 0; person < x.count(0); person++) {
            for (int what = 0; what < 4; what++) {
                seen.add(x.of(person, what));
            }
            seen.add(x.secret(person, 0));
            // The first one's row makes other days of the book stand.
            lookByRows(x, person, seen);
        }
        seen.add(x.day(0, 1));
        seen.add(x.year(4, 0));
        seen.add(x.year(4, 1));
        seen.add(x.sure());
        seen.add(x.swap(0));
    }

    private static void lookByRows(DayKnown x, int person, List<Integer> seen) {
        int was = x.of(person, 2);
        for (int row = 0; row < 8 && was >= 0; row++) {
            x.row(person, row);
            seen.add(x.looked(0));
            seen.add(x.looked(1));
        }
        if (was >= 0) {
            x.row(person, was);
        }
    }

    private void changeNothing(String calls, Calls refused) {
        DayKnown x = state.make();
        refused.on(x);
        Due.holds(name + ": " + calls + " changed nothing", probe(x).equals(untouched));
    }

    private static void theProbeSeesAll() {
        Due.says("They change nothing.");
        List<Calls> changes = List.of(x -> x.feed('x'), x -> x.town(), x -> x.person(0, 0), x -> x.row(0, 4),
            x -> x.note(0, true), x -> x.yesterday(1), x -> x.morning(), x -> x.book(2), x -> x.book(-1),
            x -> x.act(0, 0, 1), x -> x.act(9, 0, 1), x -> x.image(), x -> x.undo());
        List<Integer> untouched = probe(some());
        for (int i = 0; i < changes.size(); i++) {
            DayKnown x = some();
            changes.get(i).on(x);
            Due.holds("the probe sees change " + i, !probe(x).equals(untouched));
        }
    }

    // ---- NONE

    private int[] wrongPeople() {
        return new int[] {-1, people, 4, 5, 31, 32, MIN, MAX};
    }

    private int[] wrongDays() {
        return new int[] {-1, -2, 1 << 3 * people, 4096, 1 << 30, MIN, MAX};
    }

    private void none() {
        Due.says("NONE there is no such one of the PEOPLE, .. KIND, what");
        changeNothing("told", x -> {
            for (int what : new int[] {-1, 3, MIN, MAX}) {
                Due.is("told(" + what + ")", x.told(what), -1);
            }
        });
        changeNothing("person", x -> {
            for (int kind : new int[] {-1, 7, MIN, MAX}) {
                Due.is("person(" + kind + ", 0)", x.person(kind, 0), -1);
            }
        });
        changeNothing("count", x -> {
            for (int what : new int[] {-1, 5, MIN, MAX}) {
                Due.is("count(" + what + ")", x.count(what), -1);
            }
        });
        changeNothing("trace", x -> {
            int ran = x.count(4);
            for (int i : new int[] {-1, ran, ran + 1, 19, 20, 21, MIN, MAX}) {
                Due.is("trace(" + i + ")", x.trace(i), -1);
            }
        });
        for (int person : wrongPeople()) {
            changeNothing("person " + person, x -> nobody(x, person));
        }
        for (int person = 0; person < people; person++) {
            int whose = person;
            changeNothing("what, k of " + person, x -> {
                for (int what : new int[] {-1, 4, MIN, MAX}) {
                    Due.is("of(" + whose + ", " + what + ")", x.of(whose, what), -1);
                }
                for (int k : new int[] {-1, 7, MIN, MAX}) {
                    Due.is("as(" + whose + ", " + k + ")", x.as(whose, k), -1);
                }
            });
        }
    }

    private static void nobody(DayKnown x, int person) {
        for (int what = 0; what < 4; what++) {
            Due.is("of(" + person + ", " + what + ")", x.of(person, what), -1);
        }
        Due.is("row(" + person + ", 2)", x.row(person, 2), -1);
        Due.is("note(" + person + ", true)", x.note(person, true), -1);
        Due.is("note(" + person + ", false)", x.note(person, false), -1);
        Due.is("as(" + person + ", 0)", x.as(person, 0), -1);
        for (int hour = 0; hour < 3; hour++) {
            for (int what = 0; what < 3; what++) {
                Due.is("by(0, " + person + ", " + hour + ", " + what + ")", x.by(0, person, hour, what), -10001);
            }
            for (int what = 0; what < 2; what++) {
                Due.is("once(0, " + person + ", " + hour + ", " + what + ")", x.once(0, person, hour, what), -1);
                Due.is("bet(" + person + ", " + hour + ", " + what + ")", x.bet(person, hour, what), -1);
            }
        }
        Due.is("secret(" + person + ", 0)", x.secret(person, 0), -1);
        Due.is("secret(" + person + ", 1)", x.secret(person, 1), -1);
    }

    private void noneOfDays() {
        Due.says("NONE there is no such .. HOUR, .. what, part");
        changeNothing("what of no one", x -> {
            for (int what : new int[] {-1, 2, MIN, MAX}) {
                Due.is("again(0, " + what + ")", x.again(0, what), -1);
                Due.is("year(1, " + what + ")", x.year(1, what), -10001);
                Due.is("swap(" + what + ")", x.swap(what), -1);
                Due.is("looked(" + what + ")", x.looked(what), -1);
            }
            for (int what : new int[] {-1, 3, MIN, MAX}) {
                Due.is("day(0, " + what + ")", x.day(0, what), -10001);
            }
            for (int what : new int[] {-1, 5, MIN, MAX}) {
                Due.is("all(" + what + ")", x.all(what), -10001);
            }
        });
        for (int person = 0; person < people; person++) {
            int whose = person;
            changeNothing("hour of " + person, x -> noHour(x, whose));
            changeNothing("what of " + person, x -> noWhat(x, whose));
        }
    }

    private static void noHour(DayKnown x, int person) {
        for (int hour : WRONG_HOURS) {
            for (int what = 0; what < 3; what++) {
                Due.is("by(0, " + person + ", " + hour + ", " + what + ")", x.by(0, person, hour, what), -10001);
            }
            for (int what = 0; what < 2; what++) {
                Due.is("once(0, " + person + ", " + hour + ", " + what + ")", x.once(0, person, hour, what), -1);
                Due.is("bet(" + person + ", " + hour + ", " + what + ")", x.bet(person, hour, what), -1);
            }
        }
    }

    private static void noWhat(DayKnown x, int person) {
        for (int what : new int[] {-1, 3, MIN, MAX}) {
            Due.is("by(0, " + person + ", 0, " + what + ")", x.by(0, person, 0, what), -10001);
        }
        for (int what : new int[] {-1, 2, MIN, MAX}) {
            Due.is("once(0, " + person + ", 0, " + what + ")", x.once(0, person, 0, what), -1);
            Due.is("bet(" + person + ", 0, " + what + ")", x.bet(person, 0, what), -1);
            Due.is("secret(" + person + ", " + what + ")", x.secret(person, what), -1);
        }
    }

    // ---- BAD

    private void bad() {
        Due.says("BAD a number is not as told");
        changeNothing("feed", x -> {
            for (int sign : new int[] {-1, 128, 255, MIN, MAX}) {
                Due.is("feed(" + sign + ")", x.feed(sign), -2);
            }
        });
        changeNothing("person", x -> {
            for (int v : new int[] {-1, 10, MIN, MAX}) {
                for (int kind = 0; kind < 7; kind++) {
                    Due.is("person(" + kind + ", " + v + ")", x.person(kind, v), -2);
                }
            }
        });
        changeNothing("row", x -> {
            for (int hours : new int[] {-1, 8, MIN, MAX}) {
                for (int person = 0; person < people; person++) {
                    Due.is("row(" + person + ", " + hours + ")", x.row(person, hours), -2);
                }
            }
        });
        changeNothing("year", x -> {
            for (int n : new int[] {-1, 0, 31, MIN, MAX}) {
                Due.is("year(" + n + ", 0)", x.year(n, 0), -10002);
                Due.is("year(" + n + ", 1)", x.year(n, 1), -10002);
            }
        });
    }

    private void badOfDays() {
        Due.says("BAD .. (a DAY: it is below 0, or has bits of PEOPLE that are not there)");
        for (int day : wrongDays()) {
            changeNothing("day " + day, x -> badDay(x, day));
        }
        int last = (1 << 3 * people) - 1;
        DayKnown x = state.make();
        int was = x.told(1);
        Due.holds("day(" + last + ", 2) is not refused", x.day(last, 2) != -10002);
        Due.holds("again(" + last + ", 0) is not refused", x.again(last, 0) != -2);
        Due.is("yesterday(" + last + ") is not refused", x.yesterday(last), was);
        Due.is("yesterday(" + last + ") is not refused", x.told(1), last);
        x.book(-1);
        Due.is("book(" + last + ") is not refused", x.book(last), 1);
    }

    private void badDay(DayKnown x, int day) {
        Due.is("yesterday(" + day + ")", x.yesterday(day), -2);
        for (int what = 0; what < 3; what++) {
            Due.is("day(" + day + ", " + what + ")", x.day(day, what), -10002);
            for (int person = 0; person < people; person++) {
                Due.is("by(" + day + ", " + person + ", 2, " + what + ")", x.by(day, person, 2, what), -10002);
            }
        }
        for (int what = 0; what < 2; what++) {
            Due.is("again(" + day + ", " + what + ")", x.again(day, what), -2);
            for (int person = 0; person < people; person++) {
                Due.is("once(" + day + ", " + person + ", 2, " + what + ")", x.once(day, person, 2, what), -2);
            }
        }
        if (day != -1) {
            Due.is("book(" + day + ")", x.book(day), -2);
        }
    }

    // ---- several at once

    private void severalOnes() {
        Due.says("REFUSALS, of several the first one told: NONE .. BAD .. STATE .. FULL");
        changeNothing("several", x -> {
            Due.is("person: NONE ahead of BAD", x.person(7, 10), -1);
            Due.is("person: NONE ahead of BAD", x.person(-1, -1), -1);
            Due.is("row: NONE ahead of BAD", x.row(people, 8), -1);
            Due.is("row: NONE ahead of BAD", x.row(-1, -1), -1);
            Due.is("row: NONE ahead of STATE", x.row(people, 0), -1);
            Due.is("year: NONE ahead of BAD", x.year(0, 2), -10001);
            Due.is("year: NONE ahead of BAD", x.year(31, -1), -10001);
            Due.is("of: NONE and NONE", x.of(people, 4), -1);
            Due.is("bet: NONE and NONE", x.bet(people, 3, 2), -1);
            Due.is("secret: NONE and NONE", x.secret(people, 2), -1);
            Due.is("as: NONE ahead of another KIND", x.as(people, 6), -1);
        });
    }

    private void severalOfDays() {
        int bad = 1 << 3 * people;
        changeNothing("several of days", x -> {
            for (int day : new int[] {bad, -1}) {
                Due.is("by: NONE ahead of BAD: person", x.by(day, people, 0, 0), -10001);
                Due.is("day: NONE ahead of BAD", x.day(day, 3), -10001);
                Due.is("day: NONE ahead of BAD", x.day(day, -1), -10001);
                Due.is("once: NONE ahead of BAD: person", x.once(day, people, 0, 0), -1);
                Due.is("again: NONE ahead of BAD", x.again(day, 2), -1);
                Due.is("again: NONE ahead of BAD", x.again(day, -1), -1);
                for (int person = 0; person < people; person++) {
                    Due.is("by: NONE ahead of BAD: hour", x.by(day, person, 3, 0), -10001);
                    Due.is("by: NONE ahead of BAD: what", x.by(day, person, 0, 3), -10001);
                    Due.is("once: NONE ahead of BAD: hour", x.once(day, person, 3, 0), -1);
                    Due.is("once: NONE ahead of BAD: what", x.once(day, person, 0, 2), -1);
                }
            }
        });
    }

    // ---- STATE, FULL

    private void stateOfNew() {
        Due.says("undo: STATE: there is none.");
        changeNothing("undo", x -> Due.is("undo()", x.undo(), -3));
        DayKnown x = some();
        Due.is("undo() with an image", x.undo(), 1);
    }

    private void stateOfSome() {
        Due.says("row: STATE: it has none.");
        changeNothing("row", x -> {
            for (int hours = 0; hours < 8; hours++) {
                Due.is("row(1, " + hours + ")", x.row(1, hours), -3);
            }
            Due.is("BAD ahead of STATE", x.row(1, 8), -2);
            Due.is("BAD ahead of STATE", x.row(1, -1), -2);
            Due.is("NONE ahead of STATE", x.row(2, 7), -1);
        });
        for (int kind = 0; kind < 6; kind++) {
            Due.is("row of kind " + kind, Due.people("", kind, 0).row(0, 0), -3);
        }
        Due.is("row of kind 6", Due.people("", 6, 0).row(0, 0), 0);
    }

    private void fullOfFull() {
        Due.says("FULL");
        changeNothing("feed", x -> {
            Due.is("feed", x.feed(0), -4);
            Due.is("feed", x.feed('x'), -4);
            Due.is("feed: BAD ahead of FULL", x.feed(128), -2);
            Due.is("feed: BAD ahead of FULL", x.feed(-1), -2);
        });
        changeNothing("person", x -> {
            for (int kind = 0; kind < 7; kind++) {
                Due.is("person(" + kind + ", 3)", x.person(kind, 3), -4);
            }
            Due.is("person: BAD ahead of FULL", x.person(0, 10), -2);
            Due.is("person: BAD ahead of FULL", x.person(6, -1), -2);
            Due.is("person: NONE ahead of FULL", x.person(7, 0), -1);
            Due.is("person: NONE ahead of FULL", x.person(-1, 10), -1);
        });
        changeNothing("book", x -> {
            Due.is("book", x.book(0), -4);
            Due.is("book", x.book(4095), -4);
            Due.is("book: BAD ahead of FULL", x.book(4096), -2);
            Due.is("book: BAD ahead of FULL", x.book(-2), -2);
        });
        Due.says("town: FULL (ahead of all; THE TAPE stays)");
        changeNothing("town", x -> Due.is("town", x.town(), -4));
        DayKnown x = full();
        Due.is("town with a fault", x.town(), -4);
        Due.is("the tape stays", x.count(3), 100);
        Due.is("towns", x.count(1), 5);
        Due.is("the newest holds on", x.told(0), 2);
    }

    // ---- calls that only ask, and others

    private void asking() {
        Due.says("asking changes nothing");
        changeNothing("asking of all", x -> {
            for (int what = 0; what < 5; what++) {
                x.all(what);
                x.count(what);
                x.trace(what);
                x.told(what % 3);
                x.looked(what % 2);
                x.swap(what % 2);
                x.day(0, what % 3);
                x.again(0, what % 2);
                x.year(30, what % 2);
            }
            x.sure();
        });
        for (int person = 0; person < people; person++) {
            int whose = person;
            changeNothing("asking of " + person, x -> {
                for (int what = 0; what < 4; what++) {
                    x.of(whose, what);
                    x.by(1, whose, 1, what % 3);
                    x.once(2, whose, what % 3, what % 2);
                    x.bet(whose, what % 3, what % 2);
                    x.secret(whose, what % 2);
                    x.as(whose, what);
                }
            });
        }
    }

    private static void actThatIsNone() {
        Due.says("act: 0, and no TRACE then: no such one, act.");
        int[][] none = {{2, 0}, {4, 0}, {-1, 0}, {MIN, 1}, {MAX, 2}, {0, 3}, {0, -1}, {1, MIN}, {1, MAX}, {2, 3}};
        for (int[] one : none) {
            DayKnown x = some();
            Due.is("bodies ahead of it", x.count(4), 5);
            Due.is("act(" + one[0] + ", " + one[1] + ", 9)", x.act(one[0], one[1], 9), 0);
            Due.is("no bodies then", x.count(4), 0);
            Due.is("no trace then", x.trace(0), -1);
            DayKnown same = some();
            x.act(0, 2, 5);
            Due.holds("nothing else changed", probe(x).equals(probe(same)));
        }
    }

    private static void townThatIsNone() {
        Due.says("THE TAPE, which is empty then (by a FAULT, too) .. (the one that held holds)");
        DayKnown x = some();
        Due.is("a fault", x.town(), -10 - 7);
        Due.is("the tape is empty", x.count(3), 0);
        Due.is("towns", x.count(1), 1);
        Due.is("note", x.told(0), 1);
        Due.is("worth", x.by(0, 1, 0, 0), 3);
        feed(x, "note 2;");
        DayKnown same = some();
        Due.holds("nothing else changed", probe(x).equals(probe(same)));
        DayKnown none = new DayKnown();
        Due.is("a fault ahead of all towns", Due.town(none, "note"), -14);
        Due.is("there is none yet", none.count(1), 0);
        Due.is("the tape is empty", none.count(3), 0);
    }
}
