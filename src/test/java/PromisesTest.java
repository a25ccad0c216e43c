/** Each promise by hand: ordinary inputs, the edges that the document names, and wrong inputs. */
public final class PromisesTest {
    private static final int MIN = Integer.MIN_VALUE;
    private static final int MAX = Integer.MAX_VALUE;
    // Two who do it where the other one does: at each hour both or neither.
    private static final String TOGETHER = "good 2 n>0;harm 1 h=1";

    public static void main(String[] args) {
        newObject();
        feed();
        town();
        townFaults();
        townBrackets();
        townLetters();
        told();
        person();
        ofAndRow();
        note();
        yesterday();
        by();
        kindsWould();
        strangerAndContrary();
        best();
        day();
        all();
        once();
        onceAtItsEnd();
        again();
        morning();
        year();
        bet();
        sure();
        secret();
        swap();
        swapWhereNoneStands();
        book();
        looked();
        actsOfDoerAndBest();
        actsUnderOthers();
        traceAfterRefusal();
        as();
        imageAndUndo();
        count();
        Due.end();
    }

    private static DayKnown people(String text, int... kindsAndVs) {
        return Due.people(text, kindsAndVs);
    }

    private static void newObject() {
        DayKnown x = new DayKnown();
        for (int what = 0; what < 5; what++) {
            Due.is("1 count", x.count(what), 0);
        }
        for (int what = 0; what < 3; what++) {
            Due.is("1 told", x.told(what), 0);
        }
        Due.is("1 of", x.of(0, 0), -1);
        Due.is("1 day 0", x.day(0, 0), -5);
        Due.is("1 day 1", x.day(1, 0), -10002);
        Due.is("1 trace", x.trace(0), -1);
        Due.is("1 undo", x.undo(), -3);
        Due.is("1 looked", x.looked(1), -5);
        Due.is("1 swap", x.swap(1), -5);
        Due.is("1 sure", x.sure(), 0);
        Due.is("1 year", x.year(30, 1), 0);
        Due.is("1 again", x.again(0, 0), 1);
    }

    private static void feed() {
        DayKnown x = new DayKnown();
        Due.is("2 feed 0", x.feed(0), 1);
        Due.is("2 feed 127", x.feed(127), 2);
        Due.is("2 feed -1", x.feed(-1), -2);
        Due.is("2 feed 128", x.feed(128), -2);
        Due.is("2 feed least", x.feed(MIN), -2);
        Due.is("2 feed greatest", x.feed(MAX), -2);
        for (int i = 3; i <= 100; i++) {
            Due.is("2 feed " + i, x.feed('x'), i);
        }
        Due.is("2 feed full", x.feed('x'), -4);
        Due.is("2 feed bad ahead of full", x.feed(128), -2);
        Due.is("2 count", x.count(3), 100);
        Due.is("2 town", x.town(), -10);
        Due.is("2 feed after", x.feed('x'), 1);
    }

    private static void town() {
        DayKnown x = people("", 0, 0);
        Due.is("3 no town", x.by(0, 0, 0, 0), 0);
        Due.is("3 town 0", Due.town(x, "good 4 h=0"), 0);
        Due.is("3 tape is empty", x.count(3), 0);
        Due.is("3 fault", Due.town(x, "good 9 h=0;"), -21);
        Due.is("3 tape is empty by a fault", x.count(3), 0);
        Due.is("3 the one that held holds", x.by(0, 0, 0, 0), 4);
        Due.is("3 towns", x.count(1), 1);
        Due.is("3 town 1", Due.town(x, "note 7"), 1);
        Due.is("3 the newest holds", x.by(0, 0, 0, 0), 0);
        Due.is("3 town 2", Due.town(x, "harm 99 h=0"), 2);
        Due.is("3 harm", x.by(0, 0, 0, 0), -99);
        Due.is("3 town 3", Due.town(x, "good 0 h=0"), 3);
        Due.is("3 town 4", Due.town(x, "good 10 h=0"), 4);
        Due.is("3 full", Due.town(x, "good 1 h=0"), -4);
        Due.is("3 tape stays", x.count(3), 10);
        x.feed(';');
        Due.is("3 full ahead of a fault", x.town(), -4);
        Due.is("3 tape stays", x.count(3), 11);
        Due.is("3 holds on", x.by(0, 0, 0, 0), 10);
    }

    private static void fault(String text, int place) {
        Due.is("3 fault of '" + text + "'", Due.town(new DayKnown(), text), -10 - place);
    }

    private static void townFaults() {
        fault("", 0);
        fault("x", 0);
        fault(" good 1 n=1", 0);
        fault(";", 0);
        fault("g", 1);
        fault("hard 1 n=1", 3);
        fault("nope 1", 2);
        fault("good", 4);
        fault("good ", 5);
        fault("good  5 n=1", 5);
        fault("good -5 n=1", 5);
        fault("good 5", 6);
        fault("good 5n=1", 6);
        fault("good 00 n=1", 6);
        fault("good 05 n=1", 6);
        fault("good 5 ", 7);
        fault("good 100 n=1", 7);
        fault("good 5 x=1", 7);
        fault("good 5 n", 8);
        fault("good 5 n!1", 8);
        fault("good 5 ()", 8);
        fault("good 5 n=", 9);
        fault("good 5 n==1", 9);
        fault("good 5 n=n", 9);
        fault("good 5 n=01", 10);
        fault("good 5 n=1)", 10);
        fault("good 5 n=1 ", 10);
        fault("good 5 n=1!", 10);
        fault("good 5 n=100", 11);
        fault("good 5 n=1||n=1", 11);
        fault("good 5 n=1&", 11);
        fault("good 5 n=1;", 11);
        fault("good 5 n=1; note 1", 11);
        fault("good 5 (n=1", 11);
        fault("good 5 (n=1;note 1", 11);
        fault("note", 4);
        fault("note 01", 6);
        fault("note 1 n=1", 6);
        fault("note 1;;", 7);
        fault("note 100", 7);
        String eight = "note 1;note 1;note 1;note 1;note 1;note 1;note 1;note 1";
        Due.is("3 eight clauses", Due.town(new DayKnown(), eight), 0);
        fault(eight + ";", 55);
        fault(eight + ";note 1", 55);
        String long92 = "n=1|n=1|n=1|n=1|n=1|n=1|n=1|n=1|n=1|n=1|n=1|n=1|n=1|n=1|n=1|n=1|n=1|n=1|n=1|n=1|n=1|n=1|n=1|";
        fault("good 1 " + long92, 99);
        fault("good 10 " + long92, 100);
    }

    private static void townBrackets() {
        fault("good 1 !!!!!!n=1", 12);
        fault("good 1 ((((((n=1))))))", 12);
        fault("good 1 !(!(!(n=1)))", 12);
        fault("good 1 !!!!!(n=1)", 12);
        fault("good 1 (((((!n=1)))))", 12);
        String[] fine = {"good 1 !!!!!n=1&!!!!!n=1", "good 1 (((((n=1)))))|(((((n=1)))))", "good 1 !(!(!n=1))",
            "good 1 !!!!(n=1|n=2)&!n=1", "good 99 n=99", "harm 0 n=0", "note 0", "note 99"};
        for (String text : fine) {
            Due.is("3 '" + text + "'", Due.town(new DayKnown(), text), 0);
        }
        worth("good 1 !h=0&h=1", 0, 1, 0);
        worth("good 1 !(h=0&h=1)", 1, 1, 1);
        worth("good 1 h=0|h=1&h=2", 1, 0, 0);
        worth("good 1 (h=0|h=1)&h=1", 0, 1, 0);
        worth("good 1 h<1|h>1", 1, 0, 1);
        worth("good 1 !!h=2", 0, 0, 1);
        worth("good 1 h=2&h=2|h=0&h=1|h=1", 0, 1, 1);
        worth("good 1 !(!(h=0|h=1)&!h=0)&h<1|(h=2)", 1, 0, 1);
        worth("good 9 h=0;harm 3 h<2;good 20 h=2;note 3;harm 1 h=2", 6, -3, 19);
        worth("good 1 h=0;good 2 h=1;good 3 h=2;good 4 h=0;good 5 h=1;good 6 h=2;good 7 h=0;good 9 h<2", 21, 16, 9);
    }

    private static void worth(String text, int first, int second, int third) {
        DayKnown x = people(text, 0, 0);
        Due.is("10 '" + text + "' at 0", x.by(0, 0, 0, 0), first);
        Due.is("10 '" + text + "' at 1", x.by(0, 0, 1, 0), second);
        Due.is("10 '" + text + "' at 2", x.by(0, 0, 2, 0), third);
    }

    private static void townLetters() {
        DayKnown x = people("good 1 h=1;good 2 p=2;good 4 m=2;good 8 n=1;good 16 y=1;good 32 k=5", 0, 0, 5, 0, 5, 1);
        Due.is("10 h at 0", x.by(0, 0, 0, 0), 0);
        Due.is("10 h at 1", x.by(0, 0, 1, 0), 1);
        Due.is("10 k", x.by(0, 1, 0, 0), 32);
        Due.is("10 p, k", x.by(0, 2, 0, 0), 34);
        Due.is("10 n of another", x.by(8, 0, 0, 0), 8);
        Due.is("10 n not of itself", x.by(1, 0, 0, 0), 0);
        Due.is("10 n of two", x.by(8 + 64, 0, 0, 0), 0);
        Due.is("10 m of two in the hour ahead", x.by(8 + 64, 0, 1, 0), 5);
        Due.is("10 m at 0 is 0", x.by(511, 0, 0, 0), 0);
        Due.is("10 m not of itself", x.by(1 + 8, 0, 1, 0), 17);
        Due.is("10 m two hours ahead", x.by(8 + 64, 0, 2, 0), 0);
        Due.is("10 y", x.by(1, 0, 1, 0), 17);
        Due.is("10 y two hours ahead", x.by(1, 0, 2, 0), 0);
        Due.is("8 note", x.note(0, true), 0);
        Due.is("10 y at 0", x.by(0, 0, 0, 0), 16);
        Due.is("10 y at 0, at 1", x.by(0, 0, 1, 0), 1);
        Due.is("10 y at 0 of another", x.by(0, 1, 0, 0), 32);
    }

    private static void told() {
        DayKnown x = people("note 3;good 1 h=0;note 2;harm 1 h=1", 0, 0, 0, 0);
        Due.is("4 the last note", x.told(0), 2);
        Due.town(x, "good 1 h=0");
        Due.is("4 a town without note", x.told(0), 0);
        Due.town(x, "note 42");
        Due.is("4 note", x.told(0), 42);
        Due.town(x, "note 5;");
        Due.is("4 note after a fault", x.told(0), 42);
        Due.is("4 yesterday", x.told(1), 0);
        x.yesterday(63);
        Due.is("4 yesterday", x.told(1), 63);
        x.note(1, true);
        Due.is("4 notes", x.told(2), 2);
        x.note(0, true);
        Due.is("4 notes", x.told(2), 3);
        Due.is("4 none", x.told(3), -1);
        Due.is("4 none", x.told(-1), -1);
        Due.is("4 none", x.told(MIN), -1);
    }

    private static void person() {
        DayKnown x = new DayKnown();
        Due.is("5 kind -1", x.person(-1, 10), -1);
        Due.is("5 kind 7", x.person(7, 10), -1);
        Due.is("5 v -1", x.person(0, -1), -2);
        Due.is("5 v 10", x.person(0, 10), -2);
        Due.is("5 nothing came", x.count(0), 0);
        Due.is("5 first", x.person(6, 9), 0);
        Due.is("5 second", x.person(0, 0), 1);
        Due.is("5 third", x.person(3, 4), 2);
        Due.is("5 fourth", x.person(5, 4), 3);
        Due.is("5 full", x.person(0, 0), -4);
        Due.is("5 bad ahead of full", x.person(0, 10), -2);
        Due.is("5 none ahead of full", x.person(7, 0), -1);
        Due.is("5 people", x.count(0), 4);
    }

    private static void ofAndRow() {
        DayKnown x = people("", 6, 9, 0, 3);
        Due.is("6 kind", x.of(0, 0), 6);
        Due.is("6 v", x.of(0, 1), 9);
        Due.is("6 row at first", x.of(0, 2), 0);
        Due.is("6 note at first", x.of(0, 3), 0);
        Due.is("6 kind", x.of(1, 0), 0);
        Due.is("6 no row", x.of(1, 2), -5);
        Due.is("7 row", x.row(0, 7), 0);
        Due.is("7 row", x.row(0, 2), 7);
        Due.is("6 row", x.of(0, 2), 2);
        x.note(1, true);
        Due.is("6 note", x.of(1, 3), 1);
        Due.is("6 none", x.of(2, 0), -1);
        Due.is("6 none", x.of(-1, 0), -1);
        Due.is("6 none", x.of(0, 4), -1);
        Due.is("6 none", x.of(0, -1), -1);
        Due.is("7 none ahead of bad", x.row(2, 8), -1);
        Due.is("7 bad ahead of state", x.row(1, 8), -2);
        Due.is("7 bad", x.row(0, -1), -2);
        Due.is("7 state", x.row(1, 0), -3);
        Due.is("7 nothing changed", x.of(0, 2), 2);
        Due.is("7 it does what the row tells", x.all(3), 2);
    }

    private static void note() {
        DayKnown x = people("good 1 h=0&y=1", 0, 0, 0, 0);
        Due.is("8 was not", x.note(1, true), 0);
        Due.is("8 was", x.note(1, true), 1);
        Due.is("10 by the note", x.day(0, 1), 8);
        Due.is("8 was", x.note(1, false), 1);
        Due.is("8 was not", x.note(1, false), 0);
        Due.is("10 by no note", x.day(0, 1), 0);
        Due.is("8 none", x.note(2, true), -1);
        Due.is("8 none", x.note(-1, true), -1);
        Due.is("8 none", x.note(MIN, true), -1);
        Due.is("8 none changed", x.told(2), 0);
    }

    private static void yesterday() {
        DayKnown x = people("", 0, 0);
        Due.is("9 was 0", x.yesterday(7), 0);
        Due.is("9 was 7", x.yesterday(3), 7);
        Due.is("9 bits of one who is not there", x.yesterday(8), -2);
        Due.is("9 below 0", x.yesterday(-1), -2);
        Due.is("9 least", x.yesterday(MIN), -2);
        Due.is("9 greatest", x.yesterday(MAX), -2);
        Due.is("9 unchanged", x.told(1), 3);
        x.person(0, 0);
        Due.is("9 bits of the next one", x.yesterday(63), 3);
    }

    private static void by() {
        DayKnown x = people(TOGETHER, 0, 0, 0, 0);
        Due.is("10 worth", x.by(8, 0, 0, 0), 2);
        Due.is("10 worth below 0", x.by(8, 0, 1, 0), -1);
        Due.is("10 worth 0", x.by(8, 0, 2, 0), 0);
        Due.is("10 would", x.by(8, 0, 0, 1), 1);
        Due.is("10 would not below 0", x.by(8, 0, 1, 1), 0);
        Due.is("10 would not at 0", x.by(8, 0, 2, 1), 0);
        Due.is("10 gain of none", x.by(8, 0, 0, 2), 0);
        Due.is("10 gain of one hour", x.by(9, 0, 2, 2), 2);
        Due.is("10 gain of all hours", x.by(63, 1, 1, 2), 5);
        Due.is("10 gain below 0", x.by(2, 0, 0, 2), -1);
        Due.is("10 none: person", x.by(-1, 2, 0, 0), -10001);
        Due.is("10 none: person", x.by(-1, -1, 0, 0), -10001);
        Due.is("10 none: hour", x.by(0, 0, 3, 2), -10001);
        Due.is("10 none: hour", x.by(0, 0, -1, 0), -10001);
        Due.is("10 none: what", x.by(0, 0, 0, 3), -10001);
        Due.is("10 none: what", x.by(0, 0, 0, -1), -10001);
        Due.is("10 bad", x.by(64, 0, 0, 0), -10002);
        Due.is("10 bad", x.by(-1, 0, 0, 0), -10002);
        Due.is("10 bad", x.by(MAX, 0, 0, 0), -10002);
    }

    private static void kindsWould() {
        Due.is("10 PLAIN above", people("harm 3 n=0", 2, 3).day(7, 1), 7);
        Due.is("10 PLAIN below", people("harm 3 n=0", 2, 2).day(7, 1), 0);
        Due.is("10 PLAIN as told", people("good 3 n=0", 2, 2).day(2, 1), 2);
        Due.is("10 DOER at 0", people("", 0, 0).day(7, 1), 0);
        DayKnown pact = people("harm 3 p=0&h<2", 4, 1, 6, 0, 6, 0);
        // One other at 0, none at 1, two at 2; itself told at 0 and 1.
        Due.is("10 PACT", pact.by(3 + 8 + 32 + 256, 0, 0, 1), 1);
        Due.is("10 PACT as PLAIN below", pact.by(3 + 8 + 32 + 256, 0, 1, 1), 0);
        Due.is("10 PACT not told", pact.by(3 + 8 + 32 + 256, 0, 2, 1), 1);
        Due.is("10 PACT as PLAIN as told", pact.by(4, 0, 2, 1), 1);
        Due.is("10 PACT of 0", people("harm 9 p=0", 4, 0).day(0, 1), 7);
        Due.is("10 PACT of 9", people("", 4, 9, 6, 0, 6, 0, 6, 0).day(4088, 1), 0);
        DayKnown told = people("good 9 h=0", 6, 0);
        told.row(0, 6);
        Due.is("10 TOLD", told.day(1, 1), 6);
    }

    private static void strangerAndContrary() {
        DayKnown x = people("good 1 n=1;good 1 k=6", 3, 0, 6, 0);
        Due.is("10 STRANGER of day 0", x.by(56, 0, 0, 1), 0);
        x.yesterday(8 + 32);
        Due.is("10 STRANGER of yesterday", x.day(0, 1), 5);
        Due.is("10 STRANGER, worth by the day told", x.by(0, 0, 0, 0), 0);
        DayKnown own = people("good 1 k=3;good 1 k=5&h=2", 3, 0, 5, 0);
        Due.is("10 STRANGER has its own kind", own.by(0, 0, 1, 1), 1);
        Due.is("10 CONTRARY has its own kind", own.by(0, 1, 1, 1), 0);
        Due.is("10 CONTRARY as STRANGER", own.by(0, 1, 2, 1), 1);
        for (int v = 0; v < 10; v++) {
            DayKnown contrary = people("", 5, v);
            Due.is("10 CONTRARY of " + v, contrary.day(0, 1), 1 << v % 3);
            Due.is("10 CONTRARY of " + v, contrary.day(7, 1), 7 - (1 << v % 3) & 1 << v % 3);
            Due.is("11 CONTRARY never stands", contrary.all(0), 0);
        }
    }

    private static void best() {
        // At 0: 3; at 1: 1, and 2 less behind 0; at 2 nothing.
        DayKnown x = people("good 3 h=0;good 1 h=1;harm 2 h=1&y=1", 1, 0);
        Due.is("10 BEST, the least of several", x.day(0, 1), 1);
        Due.is("10 BEST", x.day(7, 1), 1);
        Due.is("10 BEST with its note", x.note(0, true), 0);
        Due.is("10 BEST with its note", x.day(7, 1), 1);
        // Worth nothing now, but 9 in the next hour.
        Due.is("10 BEST looks ahead", people("harm 2 h=0;good 9 h=1&y=1", 1, 0).day(0, 1), 3);
        Due.is("10 DOER does not", people("harm 2 h=0;good 9 h=1&y=1", 0, 0).day(3, 1), 2);
        Due.is("10 BEST by the others", people("good 1 n=1", 1, 0, 6, 0).day(40, 1), 5);
        Due.is("10 BEST where all is harm", people("harm 1 h<3", 1, 0).day(7, 1), 0);
    }

    private static void day() {
        DayKnown x = people(TOGETHER, 0, 0, 0, 0);
        Due.is("11 stands", x.day(63, 0), -5);
        Due.is("11 first otherwise", x.day(8, 0), 0);
        Due.is("11 first otherwise, hour", x.day(32, 0), 2);
        Due.is("11 first otherwise, the least hour", x.day(18 + 4 + 8, 0), 0);
        Due.is("11 answer", x.day(8, 1), 1);
        Due.is("11 answer", x.day(34, 1), 16 + 4);
        Due.is("11 gain", x.day(63, 2), 10);
        Due.is("11 gain", x.day(2, 2), -1);
        DayKnown second = people("good 1 p=1&h=2", 6, 0, 0, 0);
        Due.is("11 first otherwise, one behind", second.day(0, 0), 12);
        Due.is("11 stands", second.day(32, 0), -5);
        Due.is("11 none ahead of bad", x.day(-1, 3), -10001);
        Due.is("11 none", x.day(0, -1), -10001);
        Due.is("11 bad", x.day(64, 0), -10002);
        Due.is("11 bad", x.day(MIN, 2), -10002);
    }

    private static void all() {
        DayKnown x = people(TOGETHER, 0, 0, 0, 0);
        Due.is("12 stand", x.all(0), 8);
        Due.is("12 least", x.all(1), 0);
        Due.is("12 greatest", x.all(2), 63);
        Due.is("12 chosen", x.all(3), 63);
        Due.is("12 gain", x.all(4), 10);
        Due.is("12 none", x.all(5), -10001);
        Due.is("12 none", x.all(-1), -10001);
        DayKnown free = people("", 2, 0, 2, 0, 2, 0, 2, 0);
        Due.is("12 all stand", free.all(0), 4096);
        Due.is("12 greatest", free.all(2), 4095);
        Due.is("12 the least of several", free.all(3), 0);
        Due.is("12 gain 0", free.all(4), 0);
        DayKnown harmed = people("harm 7 h=1", 6, 0);
        harmed.row(0, 2);
        Due.is("12 gain below 0", harmed.all(4), -7);
        Due.is("12 chosen below 0", harmed.all(3), 2);
        DayKnown never = people("", 5, 0);
        Due.is("12 none stands", never.all(0), 0);
        for (int what = 1; what < 5; what++) {
            Due.is("12 none stands", never.all(what), -5);
        }
    }

    private static void once() {
        DayKnown x = people(TOGETHER, 0, 0, 0, 0);
        Due.is("13 that day itself", x.once(1, 0, 0, 0), 0);
        Due.is("13 that day itself", x.once(1, 0, 0, 1), 0);
        Due.is("13 never", x.once(63, 0, 0, 0), -5);
        Due.is("13 never", x.once(63, 1, 2, 1), -5);
        Due.is("13 otherwise than it does, then", x.once(56, 0, 0, 0), -5);
        DayKnown follows = people("good 1 p=1&n=1|p=2&m=1", 6, 0, 0, 0, 0, 0);
        follows.row(0, 1);
        // By hand: 4, 33, 137, 25, 265, 41, 9, and 9 stands.
        Due.is("13 days on", follows.once(0, 0, 2, 0), 6);
        Due.is("13 which", follows.once(0, 0, 2, 1), 9);
        Due.is("13 none: person", x.once(-1, 2, 0, 0), -1);
        Due.is("13 none: hour", x.once(-1, 0, 3, 0), -1);
        Due.is("13 none: hour", x.once(0, 0, -1, 0), -1);
        Due.is("13 none: what", x.once(-1, 0, 0, 2), -1);
        Due.is("13 bad", x.once(64, 0, 0, 0), -2);
        Due.is("13 bad", x.once(-1, 0, 0, 1), -2);
    }

    private static void onceAtItsEnd() {
        DayKnown x = people("harm 1 m>1&y=1|n=1;good 8 n<1&y=1;good 2 p>1|n=1&!p>1;harm 7 n=2;harm 7 n>0&y=1",
            0, 0, 1, 2, 1, 2, 4, 3);
        int[] days = new int[79];
        days[0] = 620;
        for (int i = 0; i < 78; i++) {
            Due.holds("11 day " + i + " of a long chain", x.day(days[i], 0) >= 0);
            days[i + 1] = x.day(days[i], 1);
        }
        Due.is("11 a long chain ends", x.day(days[78], 0), -5);
        Due.is("13 60 days on", x.once(days[18] ^ 1, 0, 0, 0), 60);
        Due.is("13 60 days on, which", x.once(days[18] ^ 1, 0, 0, 1), days[78]);
        Due.is("13 59 days on", x.once(days[19] ^ 2048, 3, 2, 0), 59);
        Due.is("13 61 days on", x.once(days[17] ^ 1, 0, 0, 0), -5);
        Due.is("13 61 days on, which", x.once(days[17] ^ 1, 0, 0, 1), -5);
        Due.is("14 79 days on", x.again(620, 0), 79);
        Due.is("14 79 days on, how many from then", x.again(620, 1), 1);
    }

    private static void again() {
        DayKnown x = people(TOGETHER, 0, 0, 0, 0);
        Due.is("14 stands", x.again(63, 0), 1);
        Due.is("14 stands", x.again(63, 1), 1);
        Due.is("14 two by turns", x.again(62, 0), 2);
        Due.is("14 two by turns", x.again(62, 1), 2);
        DayKnown never = people("", 5, 0);
        Due.is("14 from a day that does not come back", never.again(2, 0), 3);
        Due.is("14 from a day that does not come back", never.again(2, 1), 2);
        Due.is("14 none ahead of bad", x.again(-1, 2), -1);
        Due.is("14 none", x.again(0, -1), -1);
        Due.is("14 bad", x.again(64, 0), -2);
        Due.is("14 bad", x.again(MIN, 1), -2);
    }

    private static void morning() {
        DayKnown x = people(TOGETHER + ";note 3", 0, 0, 0, 0);
        Due.is("15 chosen", x.morning(), 63);
        Due.is("15 it becomes yesterday", x.told(1), 63);
        Due.is("15 notes", x.told(2), 3);
        DayKnown no = people("", 0, 0, 0, 0);
        Due.is("15 chosen", no.morning(), 0);
        Due.is("15 without note, 0 hours are enough", no.told(2), 3);
        DayKnown never = people("note 1", 5, 0, 6, 0);
        never.row(1, 4);
        never.note(0, true);
        Due.is("15 the answer to yesterday", never.morning(), 1 + 32);
        Due.is("15 notes", never.told(2), 3);
        Due.is("15 the answer to that", never.morning(), 32);
        Due.is("15 the note is gone", never.told(2), 2);
        Due.is("15 of", never.of(0, 3), 0);
        DayKnown some = people("good 1 h=0&p=0;note 2", 0, 0, 6, 0);
        some.row(1, 3);
        some.note(0, true);
        Due.is("15 chosen", some.morning(), 1 + 8 + 16);
        Due.is("15 note hours", some.told(2), 2);
    }

    private static void year() {
        DayKnown x = people("good 5 h=0&y=1;good 1 h>0;note 2", 0, 0);
        Due.is("16 the note comes behind the first morning", x.year(1, 0), 2);
        Due.is("16 the note is there", x.year(2, 0), 9);
        Due.is("16 on", x.year(30, 0), 2 + 29 * 7);
        Due.is("16 all stood", x.year(30, 1), 0);
        Due.is("16 put back", x.told(1), 0);
        Due.is("16 put back", x.told(2), 0);
        Due.is("16 put back", x.morning(), 6);
        DayKnown never = people("good 1 h=0;note 3", 5, 0);
        Due.is("16 none stood", never.year(3, 1), 3);
        // It does it at 0 on the first and on the third of the mornings.
        Due.is("16 gain", never.year(3, 0), 2);
        Due.is("16 none ahead of bad", x.year(31, 2), -10001);
        Due.is("16 none", x.year(1, -1), -10001);
        Due.is("16 bad", x.year(0, 0), -10002);
        Due.is("16 bad", x.year(31, 1), -10002);
        Due.is("16 bad", x.year(MIN, 1), -10002);
    }

    private static void bet() {
        DayKnown x = people(TOGETHER, 0, 0, 0, 0);
        Due.is("17 above", x.bet(0, 0, 0), 1);
        Due.is("17 below", x.bet(0, 0, 1), 2);
        DayKnown never = people("", 5, 0);
        Due.is("17 none stands", never.bet(0, 0, 0), 0);
        Due.is("17 none stands", never.bet(0, 0, 1), 1);
        DayKnown doer = people("", 0, 0);
        Due.is("17 none does", doer.bet(0, 2, 0), 0);
        Due.is("17 none does", doer.bet(0, 2, 1), 1);
        // At 0 the second does it only with the first: three days stand.
        DayKnown three = people("harm 1 p=1&h=0&n=0;harm 1 h>0", 2, 0, 2, 0);
        Due.is("17 one of three", three.bet(1, 0, 0), 1);
        Due.is("17 one of three", three.bet(1, 0, 1), 3);
        Due.is("17 two of three", three.bet(0, 0, 0), 2);
        Due.is("17 two of three", three.bet(0, 0, 1), 3);
        Due.is("17 none: person", x.bet(2, 0, 0), -1);
        Due.is("17 none: hour", x.bet(0, 3, 0), -1);
        Due.is("17 none: hour", x.bet(0, -1, 0), -1);
        Due.is("17 none: part", x.bet(0, 0, 2), -1);
        Due.is("17 none: part", x.bet(0, 0, -1), -1);
    }

    private static void sure() {
        Due.is("18 one of two", people(TOGETHER, 0, 0, 0, 0).sure(), 1);
        Due.is("18 none needed", people("good 1 h=0", 0, 0).sure(), 0);
        Due.is("18 none stands", people("", 5, 0).sure(), -5);
        Due.is("18 all", people("", 2, 0, 2, 0, 2, 0, 2, 0).sure(), 15);
        Due.is("18 the one who chooses", people("", 0, 0, 2, 0, 0, 0).sure(), 2);
        Due.is("18 both who choose", people("", 2, 0, 0, 0, 2, 0).sure(), 5);
        DayKnown x = people("", 2, 0, 0, 0);
        x.sure();
        Due.is("18 nothing changed", x.of(0, 0), 2);
        Due.is("18 nothing changed", x.all(0), 8);
    }

    private static void secret() {
        DayKnown x = people(TOGETHER, 0, 0, 0, 0);
        Due.is("19 by yesterday 0", x.secret(0, 0), 0);
        Due.is("19 surprise", x.secret(0, 1), 3);
        x.yesterday(8 + 32);
        Due.is("19 by yesterday", x.secret(0, 0), 5 + 40);
        Due.is("19 surprise", x.secret(0, 1), 1);
        x.yesterday(63);
        Due.is("19 no surprise", x.secret(1, 1), 0);
        Due.is("19 nothing changed", x.of(0, 0), 0);
        DayKnown never = people("good 1 k=3&h=2", 5, 0);
        Due.is("19 of kind STRANGER", never.secret(0, 0), 4);
        Due.is("19 surprise, none stands", never.secret(0, 1), -5);
        DayKnown two = people("", 5, 0, 0, 0);
        Due.is("19 none would stand", two.secret(1, 0), -5);
        Due.is("19 none would stand", two.secret(1, 1), -5);
        Due.is("19 none: person", x.secret(2, 0), -1);
        Due.is("19 none: person", x.secret(-1, 0), -1);
        Due.is("19 none: what", x.secret(0, 2), -1);
        Due.is("19 none: what", x.secret(0, -1), -1);
    }

    private static void swap() {
        Due.is("20 none", people(TOGETHER, 0, 0, 0, 0).swap(0), 0);
        Due.is("20 none", people(TOGETHER, 0, 0, 0, 0).swap(1), -5);
        DayKnown x = people("good 5 p=1&k=1|p=2&k=0", 3, 0, 0, 0, 1, 0);
        Due.is("20 one pair", x.swap(0), 1);
        Due.is("20 which", x.swap(1), 12);
        Due.is("20 nothing changed", x.of(1, 0), 0);
        Due.is("20 nothing changed", x.all(3), 0);
        DayKnown oneSided = people("good 5 p=1&k=1", 3, 0, 0, 0, 1, 0);
        Due.is("20 for one of both alone", oneSided.swap(0), 0);
        DayKnown two = people("good 5 p=0&k=2|p>0&k=0", 0, 0, 2, 0, 2, 0);
        Due.is("20 two pairs", two.swap(0), 2);
        Due.is("20 the first", two.swap(1), 1);
        // The v goes with the kind: by v 5 one would do what is told at a harm of 5.
        DayKnown rows = people("good 3 k=6;good 2 k=0", 6, 0, 0, 0);
        rows.row(0, 1);
        Due.is("20 a row stays its own", rows.swap(0), 0);
        Due.is("20 none", x.swap(2), -1);
        Due.is("20 none", x.swap(-1), -1);
    }

    private static void swapWhereNoneStands() {
        // The first does it just where the second does not, who does it just where the first does.
        DayKnown x = people("good 1 n=0&p=0;harm 9 p=1", 0, 0, 4, 1);
        Due.is("20 none stands", x.all(0), 0);
        Due.is("20 some would stand", x.swap(0), 1);
        Due.is("20 some would stand", x.swap(1), 1);
        Due.is("20 none would stand", people("", 5, 0, 5, 1).swap(0), 0);
    }

    private static void book() {
        DayKnown x = people("", 0, 0);
        Due.is("21 empty", x.book(-1), 0);
        Due.is("21 bad", x.book(8), -2);
        Due.is("21 bad", x.book(-2), -2);
        Due.is("21 bad", x.book(MIN), -2);
        for (int i = 1; i <= 10; i++) {
            Due.is("21 comes", x.book(i % 8), i);
        }
        Due.is("21 full", x.book(0), -4);
        Due.is("21 bad ahead of full", x.book(8), -2);
        Due.is("21 count", x.count(2), 10);
        Due.is("21 empty", x.book(-1), 0);
        Due.is("21 count", x.count(2), 0);
        Due.is("21 comes", x.book(7), 1);
    }

    private static void looked() {
        DayKnown x = people(TOGETHER, 0, 0, 0, 0);
        Due.is("22 none", x.looked(0), 0);
        Due.is("22 none", x.looked(1), -5);
        x.book(63);
        x.book(9);
        Due.is("22 both", x.looked(0), 2);
        Due.is("22 both", x.looked(1), -5);
        x.book(33);
        x.book(1);
        x.book(63);
        Due.is("22 three", x.looked(0), 3);
        Due.is("22 the first that doesn't", x.looked(1), 33);
        Due.is("22 no such what", x.looked(2), -1);
        Due.is("22 no such what", x.looked(-1), -1);
    }

    private static void act(DayKnown x, int person, int act, int given, int answer, int... bodies) {
        String call = "23 act(" + person + ", " + act + ", " + given + ")";
        Due.is(call, x.act(person, act, given), answer);
        Due.is(call + " bodies", x.count(4), bodies.length);
        for (int i = 0; i < bodies.length; i++) {
            Due.is(call + " trace " + i, x.trace(i), bodies[i]);
        }
        Due.is("24 none", x.trace(bodies.length), -1);
        Due.is("24 none", x.trace(-1), -1);
    }

    private static void actsOfDoerAndBest() {
        DayKnown x = people("", 0, 3, 1, 2, 2, 4, 4, 1);
        act(x, 0, 0, 5, 5, 1);
        act(x, 0, 1, 5, 2, 2, 1);
        act(x, 0, 2, 5, 4, 3, 2, 1);
        act(x, 1, 0, 5, 16, 11, 1);
        act(x, 1, 1, 5, 14, 2, 11, 1);
        act(x, 1, 2, 5, 28, 3, 2, 11, 1);
        act(x, 2, 0, 5, 7, 1);
        act(x, 2, 1, 5, -3, 21, 2, 1);
        act(x, 2, 2, 5, -6, 3, 21, 2, 1);
        act(x, 3, 0, 5, 8, 1);
        act(x, 3, 1, 5, -7, 21, 2, 1);
        act(x, 3, 2, 5, -7, 41, 3, 21, 2, 1, 1);
        act(x, 1, 0, MAX, MAX * 3 + 1, 11, 1);
        act(x, 3, 0, MAX, MIN + 2, 1);
        act(x, 3, 2, MIN, (3 + MAX - 1) * -2 + 5, 41, 3, 21, 2, 1, 1);
    }

    private static void actsUnderOthers() {
        DayKnown x = people("", 3, 2, 5, 4, 6, 1);
        act(x, 0, 0, 5, 5, 1);
        act(x, 0, 1, 5, 3, 2, 1);
        act(x, 0, 2, 5, 1, 31, 3, 2, 1);
        act(x, 1, 0, 5, 7, 51, 1);
        act(x, 1, 1, 5, 3, 2, 51, 1);
        act(x, 1, 2, 5, 1, 31, 3, 2, 51, 1);
        act(x, 2, 0, 5, 7, 1);
        act(x, 2, 1, 5, 7, 61, 2, 1);
        act(x, 2, 2, 5, 9, 31, 3, 61, 2, 1);
    }

    private static void traceAfterRefusal() {
        DayKnown x = people("", 0, 0);
        act(x, 0, 2, 5, 10, 3, 2, 1);
        act(x, 1, 0, 5, 0);
        act(x, 0, 2, 5, 10, 3, 2, 1);
        act(x, 0, 3, 5, 0);
        act(x, 0, 2, 5, 10, 3, 2, 1);
        act(x, -1, 0, 5, 0);
        act(x, 0, -1, 5, 0);
        act(x, MAX, MIN, 5, 0);
    }

    private static void as() {
        int[][] taken = {{0}, {0, 1}, {0, 2}, {0, 3}, {0, 2, 4}, {0, 3, 5}, {0, 3, 6}};
        for (int kind = 0; kind < 7; kind++) {
            DayKnown x = people("", 0, 9, kind, kind + 1);
            for (int k = 0; k < 7; k++) {
                boolean is = false;
                for (int one : taken[kind]) {
                    is |= one == k;
                }
                Due.is("25 kind " + kind + " as " + k, x.as(1, k), is ? kind + 1 : -6);
            }
        }
        DayKnown x = people("", 0, 9);
        Due.is("25 none", x.as(1, 0), -1);
        Due.is("25 none", x.as(-1, 0), -1);
        Due.is("25 none", x.as(0, 7), -1);
        Due.is("25 none", x.as(0, -1), -1);
    }

    private static void imageAndUndo() {
        DayKnown x = people("good 4 h=0", 6, 1, 0, 2);
        x.row(0, 5);
        x.note(0, true);
        x.yesterday(9);
        x.book(3);
        x.feed('n');
        x.act(0, 0, 1);
        Due.is("26 image", x.image(), 2);
        x.feed('o');
        Due.is("3 fault", x.town(), -12);
        Due.town(x, "harm 2 h=1;note 1");
        x.row(0, 2);
        x.note(0, false);
        x.note(1, true);
        x.morning();
        x.book(0);
        x.person(3, 3);
        x.yesterday(511);
        x.act(1, 2, 4);
        Due.is("27 undo", x.undo(), 2);
        Due.is("27 towns", x.count(1), 1);
        Due.is("27 town", x.by(0, 1, 0, 0), 4);
        Due.is("27 note", x.told(0), 0);
        Due.is("27 yesterday", x.told(1), 9);
        Due.is("27 notes", x.told(2), 1);
        Due.is("27 row", x.of(0, 2), 5);
        Due.is("27 book", x.count(2), 1);
        Due.is("27 tape", x.count(3), 1);
        Due.is("27 people", x.of(2, 0), -1);
        Due.is("27 day", x.yesterday(64), -2);
        Due.is("27 the trace is as it was", x.count(4), 3);
        Due.is("27 the trace is as it was", x.trace(0), 3);
        Due.is("27 the tape's sign", Due.town(x, "ote 3"), 1);
        Due.is("27 note", x.told(0), 3);
        Due.is("27 the image stays", x.undo(), 2);
        Due.is("27 towns", x.count(1), 1);
        Due.is("27 the next town", Due.town(x, "ote 4"), 1);
        Due.is("27 person", x.person(6, 0), 2);
        Due.is("27 a new row", x.of(2, 2), 0);
        Due.is("27 a new note", x.of(2, 3), 0);
        Due.is("26 a later image", x.image(), 3);
        Due.is("27 undo", x.undo(), 3);
        Due.is("27 note", x.told(0), 4);
    }

    private static void count() {
        DayKnown x = people("note 1", 0, 0, 0, 0, 0, 0);
        x.book(0);
        x.book(1);
        x.feed('a');
        x.act(0, 2, 0);
        Due.is("28 people", x.count(0), 3);
        Due.is("28 towns", x.count(1), 1);
        Due.is("28 book", x.count(2), 2);
        Due.is("28 tape", x.count(3), 1);
        Due.is("28 bodies", x.count(4), 3);
        Due.is("28 none", x.count(5), -1);
        Due.is("28 none", x.count(-1), -1);
        Due.is("28 none", x.count(MIN), -1);
    }
}
