import java.util.ArrayList;
import java.util.List;

/** Each sentence of the document that names a boundary has tests of its own here; its words stand ahead of them. */
public final class BoundsTest {
    private static final int MIN = Integer.MIN_VALUE;
    private static final int MAX = Integer.MAX_VALUE;
    private static final int DOER = 0;
    private static final int BEST = 1;
    private static final int PLAIN = 2;
    private static final int STRANGER = 3;
    private static final int PACT = 4;
    private static final int CONTRARY = 5;
    private static final int TOLD = 6;
    private static final int[] KINDS = {DOER, BEST, PLAIN, STRANGER, PACT, CONTRARY, TOLD};

    public static void main(String[] args) {
        hours();
        peopleUpToFour();
        daysAsBits();
        signs();
        tapeOfHundred();
        clausesUpToEight();
        blanks();
        numbers();
        grammar();
        compares();
        hourZero();
        opens();
        opensInARow();
        faultsOfPrefixes();
        townsUpToFive();
        townsOneAfterAnother();
        noteOfTown();
        worthWhetherOrNot();
        atFirst();
        doerAboveZero();
        bestOfEight();
        plainBelow();
        strangers();
        pacts();
        contraries();
        rows();
        standing();
        allDays();
        allWhereNoneStands();
        chosen();
        once();
        onceAtSixty();
        again();
        againAtTwoHundred();
        mornings();
        yearFromOneToThirty();
        bets();
        sureOfFewest();
        sureOfNone();
        secrets();
        swaps();
        swapOfV();
        bookOfTen();
        lookedAt();
        wrappingActs();
        traces();
        kindsAbove();
        images();
        imageOfTowns();
        callsUpTo512();
        Due.end();
    }

    // ---- Terms 1

    private static void hours() {
        Due.says("HOURS 0 .. 2");
        DayKnown x = Due.people("good 1 h=0;good 2 h=1;good 4 h=2", DOER, 0);
        for (int hour = 0; hour < 3; hour++) {
            Due.is("worth at " + hour, x.by(0, 0, hour, 0), 1 << hour);
            Due.is("would at " + hour, x.by(0, 0, hour, 1), 1);
            Due.is("once at " + hour, x.once(7, 0, hour, 0), 1);
            Due.is("bet at " + hour, x.bet(0, hour, 0), 1);
        }
        for (int hour : new int[] {-1, 3, MIN, MAX}) {
            Due.is("worth at " + hour, x.by(0, 0, hour, 0), -10001);
            Due.is("would at " + hour, x.by(0, 0, hour, 1), -10001);
            Due.is("once at " + hour, x.once(7, 0, hour, 0), -1);
            Due.is("bet at " + hour, x.bet(0, hour, 0), -1);
        }
        Due.says("by: 2 its GAIN (any HOUR 0 .. 2)");
        for (int hour = 0; hour < 3; hour++) {
            Due.is("gain, hour " + hour, x.by(7, 0, hour, 2), 7);
        }
        Due.is("gain, hour 3", x.by(7, 0, 3, 2), -10001);
        Due.is("gain, hour -1", x.by(7, 0, -1, 2), -10001);
    }

    private static void peopleUpToFour() {
        Due.says("PEOPLE are numbered from 0 on, 4 at most");
        DayKnown x = new DayKnown();
        for (int person = 0; person < 4; person++) {
            Due.is("not there yet: " + person, x.of(person, 0), -1);
            Due.is("person", x.person(person, person + 5), person);
            Due.is("there: " + person, x.of(person, 1), person + 5);
            Due.is("how many", x.count(0), person + 1);
        }
        Due.is("a fifth one", x.person(0, 0), -4);
        Due.is("how many", x.count(0), 4);
        Due.is("a fifth one", x.of(4, 0), -1);
        Due.is("the fourth one stays", x.of(3, 0), STRANGER);
        Due.is("the fourth one stays", x.of(3, 1), 8);
    }

    private static void daysAsBits() {
        Due.says("A DAY .. is a number, bit 3 p + h for one p and HOUR h");
        DayKnown x = Due.people("good 7 p=0;good 7 p=3", TOLD, 0, TOLD, 0, TOLD, 0, TOLD, 0);
        for (int place = 0; place < 12; place++) {
            x.row(place / 3, 1 << place % 3);
            Due.is("the one bit " + place, x.day(0, 1), 1 << place);
            Due.is("stands", x.day(1 << place, 0), -5);
            Due.is("gain of bit " + place, x.by(1 << place, place / 3, 0, 2), place < 3 || place > 8 ? 7 : 0);
            x.row(place / 3, 0);
        }
        Due.says("a DAY: it is below 0, or has bits of PEOPLE that are not there");
        DayKnown grows = new DayKnown();
        for (int people = 0; people <= 4; people++) {
            int bits = 1 << 3 * people;
            Due.is("the last day of " + people, grows.day(bits - 1, 1), bits - 1);
            Due.is("a bit more than " + people, grows.day(bits, 1), -10002);
            Due.is("a bit far up", grows.day(1 << 30, 1), -10002);
            Due.is("below 0", grows.day(-1, 1), -10002);
            Due.is("least", grows.day(MIN, 1), -10002);
            Due.is("the last day of " + people, grows.again(bits - 1, 0), 1);
            Due.is("a bit more than " + people, grows.again(bits, 0), -2);
            Due.is("the last day of " + people, grows.book(bits - 1), people + 1);
            Due.is("a bit more than " + people, grows.book(bits), -2);
            grows.yesterday(bits - 1);
            Due.is("a bit more than " + people, grows.yesterday(bits), -2);
            Due.is("it stays", grows.told(1), bits - 1);
            grows.person(PLAIN, 0);
        }
    }

    private static void signs() {
        Due.says("A sign (0 .. 127) comes behind THE TAPE's: how many it has. BAD");
        DayKnown x = new DayKnown();
        Due.is("-1", x.feed(-1), -2);
        Due.is("0", x.feed(0), 1);
        Due.is("127", x.feed(127), 2);
        Due.is("128", x.feed(128), -2);
        Due.is("256 + '!'", x.feed(256 + '!'), -2);
        Due.is("how many", x.count(3), 2);
        Due.is("no town starts with sign 0", x.town(), -10);
        Due.is("how many", x.count(3), 0);
        x.feed(127);
        Due.is("no town starts with sign 127", x.town(), -10);
        for (int sign = 0; sign < 128; sign++) {
            x.feed(sign);
            int due = sign == 'g' || sign == 'h' || sign == 'n' ? -11 : -10;
            Due.is("sign " + sign + " alone", x.town(), due);
        }
    }

    private static void tapeOfHundred() {
        Due.says("THE TAPE (bytes, 100 at most)");
        // 8 + 22 * 4 + 4 signs: the last test, the only one that can hold, ends with the tape.
        String text = "good 10 " + "k=9|".repeat(22) + "!h<2";
        Due.is("signs", text.length(), 100);
        DayKnown x = Due.people("", DOER, 0);
        for (int i = 0; i < 100; i++) {
            Due.is("sign " + i, x.feed(text.charAt(i)), i + 1);
        }
        Due.is("one more", x.feed(';'), -4);
        Due.is("one more", x.feed('0'), -4);
        Due.is("how many", x.count(3), 100);
        Due.is("a town of a hundred", x.town(), 0);
        Due.is("its last sign", x.by(0, 0, 1, 0), 0);
        Due.is("its last sign", x.by(0, 0, 2, 0), 10);
        Due.is("the tape is empty then", x.count(3), 0);
        Due.is("a fault at the last of a hundred", Due.town(x, text.substring(0, 99) + "x"), -10 - 99);
        Due.is("a hundred that end too early", Due.town(x, text.substring(0, 99) + ">"), -10 - 99);
        Due.is("a hundred that end too early", Due.town(x, "good 1 " + "k=9|".repeat(23) + "!"), -10 - 100);
        Due.is("the next sign", x.feed('n'), 1);
    }

    private static void clausesUpToEight() {
        Due.says("CLAUSES, 8 at most, with ; between");
        DayKnown x = Due.people("", DOER, 0);
        StringBuilder text = new StringBuilder("good 1 h=0");
        for (int clauses = 1; clauses <= 8; clauses++) {
            DayKnown one = Due.people(text.toString(), DOER, 0);
            Due.is(clauses + " clauses", one.count(1), 1);
            Due.is(clauses + " clauses", one.by(0, 0, 0, 0), clauses);
            text.append(";good 1 h=0");
        }
        Due.is("nine clauses", Due.town(x, text.toString()), -10 - 87);
        Due.is("a ; behind the eighth", Due.town(x, text.substring(0, 88)), -10 - 87);
        Due.is("notes count", Due.town(x, "note 1;".repeat(8) + "note 1"), -10 - 55);
        Due.is("no clause", Due.town(x, ""), -10);
        Due.is("; first", Due.town(x, ";note 1"), -10);
        Due.is("; last", Due.town(x, "note 1;"), -10 - 7);
        Due.is("; twice", Due.town(x, "note 1;;note 1"), -10 - 7);
        Due.is("no ; between", Due.town(x, "note 1note 1"), -10 - 6);
        Due.is("a blank between", Due.town(x, "note 1 note 1"), -10 - 6);
        Due.is("none became a town", x.count(1), 0);
    }

    private static void fault(String text, int place) {
        DayKnown x = new DayKnown();
        Due.is("'" + text + "'", Due.town(x, text), -10 - place);
        Due.is("'" + text + "' is no town", x.count(1), 0);
    }

    private static void isTown(String text) {
        Due.is("'" + text + "'", Due.town(new DayKnown(), text), 0);
    }

    private static void blanks() {
        Due.says("one blank ahead of each part behind the word");
        isTown("good 1 h=0;note 1");
        fault("good1 h=0", 4);
        fault("good  1 h=0", 5);
        fault("good 1h=0", 6);
        fault("good 1  h=0", 7);
        fault(" good 1 h=0", 0);
        fault("good 1 h=0 ", 10);
        fault("good 1 h =0", 8);
        fault("good 1 h= 0", 9);
        fault("good 1 h=0 |h=1", 10);
        fault("good 1 h=0| h=1", 11);
        fault("good 1 h=0& h=1", 11);
        fault("good 1 ! h=0", 8);
        fault("good 1 ( h=0)", 8);
        fault("good 1 (h=0 )", 11);
        fault("note1", 4);
        fault("note  1", 5);
        fault("note 1 ", 6);
        fault("note 1; note 1", 7);
        fault("note\t1", 4);
    }

    private static void numbers() {
        Due.says("n 1 or 2 digits, no 0 ahead of another");
        fault("good  h=0", 5);
        fault("good x h=0", 5);
        fault("good 00 h=0", 6);
        fault("good 07 h=0", 6);
        fault("good 100 h=0", 7);
        fault("note ", 5);
        fault("note 00", 6);
        fault("note 09", 6);
        fault("note 100", 7);
        fault("good -1 h=0", 5);
        fault("good +1 h=0", 5);
        // The signs beside the digits.
        fault("note /", 5);
        fault("note :", 5);
        fault("note 1/", 6);
        fault("note 1:", 6);
        for (int n = 0; n < 100; n++) {
            DayKnown x = Due.people("good " + n + " h<9;harm " + (99 - n) + " h=1;note " + n, DOER, 0);
            Due.is("good " + n, x.by(0, 0, 0, 0), n);
            Due.is("good " + n + " less harm " + (99 - n), x.by(0, 0, 1, 0), 2 * n - 99);
            Due.is("note " + n, x.told(0), n);
        }
        Due.says("a number likewise");
        fault("good 1 h=", 9);
        fault("good 1 h=x", 9);
        fault("good 1 h=00", 10);
        fault("good 1 h=02", 10);
        fault("good 1 h=100", 11);
        isTown("good 1 h=0|h=9|h=10|h=99");
        worths("good 1 h<99", 1, 1, 1);
        worths("good 1 h<10", 1, 1, 1);
        worths("good 1 h>10|h=20", 0, 0, 0);
    }

    private static void grammar() {
        Due.says("E: T, or T|E. T: F, or F&T. F: !F, (E), or a TEST");
        fault("good 1 ", 7);
        fault("good 1 |h=0", 7);
        fault("good 1 &h=0", 7);
        fault("good 1 ()", 8);
        fault("good 1 )", 7);
        fault("good 1 !", 8);
        fault("good 1 !)", 8);
        fault("good 1 !|h=0", 8);
        fault("good 1 h=0|", 11);
        fault("good 1 h=0&", 11);
        fault("good 1 h=0||h=1", 11);
        fault("good 1 h=0|&h=1", 11);
        fault("good 1 h=0!h=1", 10);
        fault("good 1 h=0(h=1)", 10);
        fault("good 1 h=0)", 10);
        fault("good 1 (h=0)h=1", 12);
        fault("good 1 (h=0", 11);
        fault("good 1 (h=0;note 1", 11);
        fault("good 1 (h=0))", 12);
        fault("good 1 H=0", 7);
        fault("good 1 x=0", 7);
        fault("good 1 0=h", 7);
        fault("GOOD 1 h=0", 0);
        fault("goad 1 h=0", 2);
        fault("hood 1 h=0", 1);
        fault("node 1", 2);
        fault("good 1 h=0;x", 11);
        worths("good 1 h=0|h=1&h=2", 1, 0, 0);
        worths("good 1 h=1&h=2|h=0", 1, 0, 0);
        worths("good 1 h=1&(h=2|h=1)", 0, 1, 0);
        worths("good 1 !h=0&h<2", 0, 1, 0);
        worths("good 1 !(h=0&h<2)", 0, 1, 1);
        worths("good 1 !!h=0", 1, 0, 0);
        worths("good 1 !h=0|h=0&!h=0", 0, 1, 1);
    }

    private static void worths(String text, int... due) {
        DayKnown x = Due.people(text, DOER, 0);
        for (int hour = 0; hour < 3; hour++) {
            Due.is("'" + text + "' at " + hour, x.by(0, 0, hour, 0), due[hour]);
        }
    }

    private static void compares() {
        Due.says("one of < = >");
        worths("good 1 h<0", 0, 0, 0);
        worths("good 1 h<1", 1, 0, 0);
        worths("good 1 h<2", 1, 1, 0);
        worths("good 1 h<3", 1, 1, 1);
        worths("good 1 h=1", 0, 1, 0);
        worths("good 1 h>0", 0, 1, 1);
        worths("good 1 h>1", 0, 0, 1);
        worths("good 1 h>2", 0, 0, 0);
        worths("good 1 h<3&!h<0", 1, 1, 1);
        worths("good 1 h=0&h<3", 1, 0, 0);
        fault("good 1 h!1", 8);
        fault("good 1 h<=1", 9);
        fault("good 1 h==1", 9);
        fault("good 1 h<>1", 9);
        fault("good 1 h;1", 8);
        fault("good 1 h?1", 8);
        Due.says("n how many others DO IT in this one, m in the HOUR ahead, p one of the PEOPLE, k its KIND");
        DayKnown x = Due.people("good 1 n=3;good 2 m=3;good 4 p=3;good 8 k=6", DOER, 0, DOER, 0, DOER, 0, TOLD, 0);
        Due.is("n, all three others; p; k", x.by(73, 3, 0, 0), 1 + 4 + 8);
        Due.is("m, all three others", x.by(73, 3, 1, 0), 2 + 4 + 8);
        Due.is("itself is none of them", x.by(73 + 512, 3, 0, 0), 1 + 4 + 8);
        Due.is("two others and itself", x.by(73 + 512, 0, 0, 0), 1);
        Due.is("two others", x.by(73, 0, 0, 0), 0);
    }

    private static void hourZero() {
        Due.says("m how many others DO IT in the HOUR ahead (in HOUR 0: 0)");
        DayKnown x = Due.people("good 1 m=0;good 2 m=1", DOER, 0, DOER, 0);
        for (int other = 0; other < 8; other++) {
            Due.is("m at 0, the other one's row " + other, x.by(other << 3, 0, 0, 0), 1);
            Due.is("m at 1, the other one's row " + other, x.by(other << 3, 0, 1, 0), 1 + (other & 1));
            Due.is("m at 2, the other one's row " + other, x.by(other << 3, 0, 2, 0), 1 + (other >> 1 & 1));
        }
        Due.says("y whether itself did in the HOUR ahead (1, 0; in HOUR 0: whether its NOTE is there)");
        DayKnown y = Due.people("good 1 y=0;good 2 y=1;good 4 y>1", DOER, 0, DOER, 0);
        for (int row = 0; row < 8; row++) {
            y.note(0, false);
            Due.is("y at 0 without note, row " + row, y.by(row, 0, 0, 0), 1);
            y.note(0, true);
            Due.is("y at 0 with note, row " + row, y.by(row, 0, 0, 0), 2);
            Due.is("y at 0, the other one's note", y.by(row, 1, 0, 0), 1);
            Due.is("y at 1, row " + row, y.by(row, 0, 1, 0), 1 + (row & 1));
            Due.is("y at 2, row " + row, y.by(row, 0, 2, 0), 1 + (row >> 1 & 1));
        }
        DayKnown now = Due.people("good 1 y=1&h=0", DOER, 0);
        Due.is("without note", now.all(3), 0);
        now.note(0, true);
        Due.is("with note", now.all(3), 1);
        Due.is("with note", now.by(0, 0, 0, 1), 1);
        now.note(0, false);
        Due.is("without note again", now.all(3), 0);
    }

    private static void opens() {
        Due.says("At most 5 of ! and ( are open (a ( till its ) , a ! till its F ends)");
        isTown("good 1 !!!!!h=0");
        isTown("good 1 (((((h=0)))))");
        isTown("good 1 !(!(!h=0))");
        isTown("good 1 (!(!(h=0)))");
        fault("good 1 !!!!!!h=0", 12);
        fault("good 1 ((((((h=0))))))", 12);
        fault("good 1 !(!(!(h=0)))", 12);
        fault("good 1 (((((!h=0)))))", 12);
        fault("good 1 !!!!!(h=0)", 12);
        worths("good 1 !!!!!h=0", 0, 1, 1);
        worths("good 1 (((((h=0)))))", 1, 0, 0);
        worths("good 1 !(!(!h=0))", 0, 1, 1);
    }

    private static void opensInARow() {
        isTown("good 1 !!!!!h=0&!!!!!h=0|!!!!!h=0");
        isTown("good 1 (((((h=0)))))&(((((h=0)))))");
        isTown("good 1 ((((!h=0&!h=1|!h=2))))");
        isTown("good 1 !!!!(h=0|h=1)&!!!!!h=2");
        isTown("good 1 !((((h=0))))&(((((h=0)))))");
        isTown("good 1 !!!!!h=0;good 1 !!!!!h=0");
        // Both sides of a sign within five are within five.
        fault("good 1 ((((!h=0&!!h=1))))", 17);
        fault("good 1 !(h=0|(((!h=0))))", 16);
        fault("good 1 !((((h=0|(h=1)))))", 16);
        fault("good 1 h=0&!!!!!!h=0", 16);
    }

    private static void faultsOfPrefixes() {
        Due.says("FAULT: the place of the first byte with which no TOWN can go on (the size, if it ends too early)");
        String text = "good 12 !(h<10|p=2)&n>0;note 30;harm 7 (k=1)";
        // How many of its signs are a town by themselves.
        List<Integer> whole = List.of(19, 23, 30, 31, 44);
        for (int size = 0; size <= text.length(); size++) {
            String start = text.substring(0, size);
            if (whole.contains(size)) {
                isTown(start);
            } else {
                fault(start, size);
            }
            fault(start + "x", size);
            fault(start + "\u007f=0", size);
            fault(start + "\u0000", size);
        }
    }

    private static void townsUpToFive() {
        Due.says("TOWNS are numbered from 0 on, 5 at most; the newest one holds; without one there are no CLAUSES");
        DayKnown x = Due.people("", DOER, 0, PLAIN, 0);
        Due.is("without one", x.by(0, 0, 0, 0), 0);
        Due.is("without one", x.all(0), 8);
        for (int town = 0; town < 5; town++) {
            Due.is("town", Due.town(x, "good " + (town + 1) + " h=0;note " + (town + 11)), town);
            Due.is("how many", x.count(1), town + 1);
            Due.is("the newest holds", x.by(0, 0, 0, 0), town + 1);
            Due.is("the newest holds", x.told(0), town + 11);
            Due.is("the tape is empty then", x.count(3), 0);
            if (town < 4) {
                Due.is("a fault", Due.town(x, "good 0 h"), -18);
                Due.is("the one that held holds", x.by(0, 0, 0, 0), town + 1);
                Due.is("how many", x.count(1), town + 1);
            }
        }
        Due.says("FULL (ahead of all; THE TAPE stays)");
        Due.is("full, of an empty tape", x.town(), -4);
        Due.is("full", Due.town(x, "good 9 h=0"), -4);
        Due.is("the tape stays", x.count(3), 10);
        Due.is("full, of a fault", Due.town(x, "x"), -4);
        Due.is("the tape stays", x.count(3), 11);
        Due.is("the newest holds", x.by(0, 0, 0, 0), 5);
        Due.is("how many", x.count(1), 5);
    }

    private static void townsOneAfterAnother() {
        Due.says("the newest one holds");
        DayKnown x = Due.people("", DOER, 0, DOER, 0);
        for (int town = 0; town < 5; town++) {
            int hour = (town + 1) % 3;
            int both = 9 << hour;
            Due.town(x, "good " + (town + 1) + " h=" + hour + (town % 2 == 1 ? "&n=1" : ""));
            Due.is("chosen, town " + town, x.all(3), both);
            Due.is("secret, town " + town, x.secret(0, 0), town % 2 == 1 ? 0 : both);
            Due.is("sure, town " + town, x.sure(), town % 2);
            Due.is("year, town " + town, x.year(3, 0), 3 * 2 * (town + 1));
            Due.is("swap, town " + town, x.swap(0), 0);
        }
        Due.says("THE TAPE .. is a TOWN");
        DayKnown anew = Due.people("", DOER, 0);
        Due.is("a fault behind two clauses and a note", Due.town(anew, "good 5 h<3;harm 1 (h=1);note 7;"), -41);
        Due.is("nothing of it is there", Due.town(anew, "good 2 h=2"), 0);
        Due.is("note", anew.told(0), 0);
        Due.is("worth at 1", anew.by(0, 0, 1, 0), 0);
        Due.is("worth at 2", anew.by(0, 0, 2, 0), 2);
        anew.image();
        Due.is("a town that is undone", Due.town(anew, "good 5 h<3;note 8"), 1);
        anew.undo();
        Due.is("the next one", Due.town(anew, "harm 3 !h=1&!h=2"), 1);
        Due.is("note", anew.told(0), 0);
        Due.is("worth at 0", anew.by(0, 0, 0, 0), -3);
        Due.is("worth at 1", anew.by(0, 0, 1, 0), 0);
    }

    private static void noteOfTown() {
        Due.says("note (0 without): the last n");
        Due.is("without a town", new DayKnown().told(0), 0);
        Due.is("without", Due.in("good 3 h=0").told(0), 0);
        Due.is("one", Due.in("note 4").told(0), 4);
        Due.is("the last of two", Due.in("note 4;note 2").told(0), 2);
        Due.is("the last of two, one clause between", Due.in("note 0;good 1 h=0;note 99;harm 1 h=0").told(0), 99);
        Due.is("the last is 0", Due.in("note 4;note 0").told(0), 0);
        DayKnown x = Due.in("note 4");
        Due.town(x, "good 3 h=0");
        Due.is("a later town without", x.told(0), 0);
    }

    private static void worthWhetherOrNot() {
        Due.says("what DOING IT then is worth to it (whether it does or not)");
        DayKnown x = Due.people("good 5 n=1;harm 2 h=0;harm 1 h=1;good 0 n=1", DOER, 0, TOLD, 0);
        for (int hour = 0; hour < 3; hour++) {
            int other = 8 << hour;
            int due = hour == 0 ? 3 : hour == 1 ? 4 : 5;
            Due.is("it does not", x.by(other, 0, hour, 0), due);
            Due.is("it does", x.by(other | 1 << hour, 0, hour, 0), due);
        }
        Due.says("GAIN of one by a DAY: WORTH of all HOURS in which it DOES IT, together");
        Due.is("in none", x.by(56, 0, 0, 2), 0);
        Due.is("in one", x.by(56 + 4, 0, 0, 2), 5);
        Due.is("in all", x.by(63, 0, 0, 2), 12);
        Due.is("below 0", x.by(3, 0, 0, 2), -3);
        Due.is("all together", x.day(63, 2), 12 + 12);
        Due.is("all together, of nobody", new DayKnown().day(0, 2), 0);
        DayKnown most = Due.people("good 99 h<3;".repeat(8).substring(0, 95), PLAIN, 0, PLAIN, 0, PLAIN, 0, PLAIN, 0);
        Due.is("eight clauses of 99", most.by(0, 0, 0, 0), 8 * 99);
        Due.is("the greatest gain", most.all(4), 8 * 99 * 12);
        Due.is("the greatest gain of a year", most.year(30, 0), 8 * 99 * 12 * 30);
    }

    private static void atFirst() {
        Due.says("a number v (0 .. 9) .. NOTES: .. (not at first). YESTERDAY: (0 at first) .. ROW (.. 0 at first)");
        for (int kind : KINDS) {
            DayKnown x = new DayKnown();
            Due.is("v -1", x.person(kind, -1), -2);
            Due.is("v 10", x.person(kind, 10), -2);
            Due.is("nobody came", x.count(0), 0);
            Due.is("v 0", x.person(kind, 0), 0);
            Due.is("v 9", x.person(kind, 9), 1);
            Due.is("its kind", x.of(1, 0), kind);
            Due.is("its v", x.of(0, 1), 0);
            Due.is("its v", x.of(1, 1), 9);
            Due.is("its row", x.of(1, 2), kind == TOLD ? 0 : -5);
            Due.is("its note", x.of(1, 3), 0);
            Due.is("yesterday", x.told(1), 0);
            Due.is("notes", x.told(2), 0);
        }
        DayKnown x = new DayKnown();
        Due.is("kind -1", x.person(-1, 0), -1);
        Due.is("kind 7", x.person(7, 0), -1);
        Due.is("nobody came", x.count(0), 0);
    }

    private static void doerAboveZero() {
        Due.says("DOER: DOES IT, if WORTH by that DAY is above 0");
        Due.is("at 1", Due.people("good 1 h<3", DOER, 9).day(0, 1), 7);
        Due.is("at 0, by no clause", Due.people("", DOER, 9).day(7, 1), 0);
        Due.is("at 0, by two clauses", Due.people("good 3 h<3;harm 3 h<3", DOER, 9).day(7, 1), 0);
        Due.is("at -1", Due.people("harm 1 h<3", DOER, 9).day(7, 1), 0);
    }

    private static void bestOfEight() {
        Due.says("BEST: .. by which its GAIN is most (of several that which is the least number)");
        Due.is("all gain 0", Due.people("", BEST, 0).day(7, 1), 0);
        Due.is("all but none gain less than 0", Due.people("harm 1 h<3", BEST, 0).day(7, 1), 0);
        Due.is("1, 2 and 3 gain 1", Due.people("good 1 h<2;harm 1 h=1&y=1", BEST, 0).day(0, 1), 1);
        Due.is("2 and 4 gain 2, 6 gains 1", Due.people("good 2 h>0;harm 3 h=2&y=1", BEST, 0).day(0, 1), 2);
        Due.is("4 gains most", Due.people("good 3 h>1;good 2 h=1;harm 3 h=2&y=1", BEST, 0).day(0, 1), 4);
        Due.is("7 gains most", Due.people("good 1 h<3", BEST, 0).day(0, 1), 7);
        Due.is("0 and 3 gain 0", Due.people("harm 2 h=0;good 2 h=1&y=1;harm 1 h=1&y=0", BEST, 0).day(7, 1), 0);
        Due.is("3 gains 1", Due.people("harm 2 h=0;good 3 h=1&y=1;harm 1 h=1&y=0", BEST, 0).day(0, 1), 3);
        Due.says("one of eight DAYS that tell of all others as that DAY does");
        DayKnown x = Due.people("good 2 n=1;harm 1 n=0", BEST, 0, TOLD, 0);
        for (int other = 0; other < 8; other++) {
            Due.is("beside row " + other, x.day(other << 3 | 7 - other, 1), other);
        }
    }

    private static void plainBelow() {
        Due.says("PLAIN: as that DAY tells of it; but not, if WORTH by that DAY is below 0 less v");
        for (int v = 0; v < 10; v++) {
            Due.is("at 0 less v", Due.people("harm " + v + " h<3", PLAIN, v).day(7, 1), 7);
            Due.is("one below it", Due.people("harm " + (v + 1) + " h<3", PLAIN, v).day(7, 1), 0);
            Due.is("not told to", Due.people("good " + v + " h<3", PLAIN, v).day(5, 1), 5);
        }
    }

    private static void strangers() {
        Due.says("STRANGER: as a DOER that REMEMBERS YESTERDAY (YESTERDAY: 0 at first)");
        DayKnown x = Due.people("good 1 n=1", STRANGER, 0, TOLD, 0);
        for (int day = 0; day < 64; day++) {
            Due.is("yesterday 0, day " + day, x.day(day, 1), 0);
        }
        for (int yesterday = 0; yesterday < 64; yesterday++) {
            x.yesterday(yesterday);
            Due.is("yesterday " + yesterday, x.day(0, 1), yesterday >> 3);
        }
        DayKnown zero = Due.people("good 1 n=1;harm 1 h=0", STRANGER, 0, TOLD, 0);
        zero.yesterday(56);
        Due.is("worth 0 is not above 0", zero.day(56, 1), 6);
    }

    private static void pacts() {
        Due.says("PACT: DOES IT, if v or more others DO IT in that HOUR by that DAY; else as PLAIN");
        int[] rowsOfOthers = {0, 8, 8 + 64, 8 + 64 + 512};
        for (int v = 0; v < 10; v++) {
            DayKnown x = Due.people("harm 9 p=0", PACT, v, PLAIN, 9, PLAIN, 9, PLAIN, 9);
            for (int others = 0; others < 4; others++) {
                int day = rowsOfOthers[others];
                Due.is(v + " with " + others, x.by(day, 0, 0, 1), others >= v ? 1 : 0);
                // As PLAIN, a worth of -9 keeps off only one whose v is below 9.
                Due.is(v + " told, with " + others, x.by(day | 1, 0, 0, 1), others >= v || v == 9 ? 1 : 0);
            }
        }
        Due.is("v 0, alone", Due.people("harm 99 h<3", PACT, 0).day(0, 1), 7);
    }

    private static void contraries() {
        Due.says("CONTRARY: in HOURS that are v modulo 3 otherwise than that DAY tells of it; in others as STRANGER");
        for (int v = 0; v < 10; v++) {
            DayKnown x = Due.people("good 1 h<3", CONTRARY, v);
            DayKnown none = Due.people("", CONTRARY, v);
            int bit = 1 << v % 3;
            for (int day = 0; day < 8; day++) {
                Due.is("v " + v + ", day " + day, x.day(day, 1), 7 - (day & bit));
                Due.is("v " + v + ", day " + day + ", no worth", none.day(day, 1), ~day & bit);
            }
        }
    }

    private static void rows() {
        Due.says("The ROW of a TOLD one becomes bits of HOURS (0 .. 7): what it was. NONE; BAD; STATE: it has none");
        DayKnown x = Due.people("good 9 h<3", TOLD, 9, DOER, 0);
        int was = 0;
        for (int row : new int[] {0, 7, 1, 6, 2, 5, 3, 4, 0}) {
            Due.is("row " + row, x.row(0, row), was);
            Due.is("row " + row, x.of(0, 2), row);
            Due.is("it does it", x.day(0, 1), row + 56);
            Due.is("it does it", x.all(3), row + 56);
            was = row;
        }
        x.row(0, 5);
        Due.is("row 8", x.row(0, 8), -2);
        Due.is("row -1", x.row(0, -1), -2);
        Due.is("row of a DOER", x.row(1, 2), -3);
        Due.is("row of nobody", x.row(2, 2), -1);
        Due.is("it stays", x.of(0, 2), 5);
        Due.is("none has come", x.of(1, 2), -5);
        Due.is("it stays", x.day(0, 1), 5 + 56);
    }

    // ---- Terms 2

    private static void standing() {
        Due.says("FIRST OTHERWISE of a DAY: the least p (then HOUR) who WOULD do otherwise (-5: it STANDS)");
        DayKnown x = Due.people("", DOER, 0, DOER, 0, DOER, 0, DOER, 0);
        Due.is("the day that stands", x.day(0, 0), -5);
        for (int place = 0; place < 12; place++) {
            int due = 10 * (place / 3) + place % 3;
            Due.is("bit " + place, x.day(1 << place, 0), due);
            Due.is("bits from " + place + " on", x.day(4096 - (1 << place), 0), due);
        }
        DayKnown does = Due.people("good 1 h<3", DOER, 0, DOER, 0);
        Due.is("one who does not, but would", does.day(63 - 32, 0), 12);
        Due.is("the day that stands", does.day(63, 0), -5);
        Due.is("of nobody", new DayKnown().day(0, 0), -5);
    }

    private static void allDays() {
        Due.says("ALL DAYS (of PEOPLE that are there): how many STAND; the least, the greatest one");
        DayKnown x = new DayKnown();
        for (int people = 0; people <= 4; people++) {
            int days = 1 << 3 * people;
            Due.is("how many of " + people, x.all(0), days);
            Due.is("the least", x.all(1), 0);
            Due.is("the greatest", x.all(2), days - 1);
            Due.is("chosen, of several the least", x.all(3), 0);
            Due.is("its gain", x.all(4), 0);
            x.person(PLAIN, 0);
        }
        DayKnown last = Due.people("good 1 h<3", DOER, 0, DOER, 0, DOER, 0, DOER, 0);
        Due.is("the last day alone", last.all(0), 1);
        Due.is("it is the least", last.all(1), 4095);
        Due.is("it is the greatest", last.all(2), 4095);
        Due.is("it is chosen", last.all(3), 4095);
        Due.is("its gain", last.all(4), 12);
        Due.is("no such what", last.all(5), -10001);
        Due.is("no such what", last.all(-1), -10001);
    }

    private static void allWhereNoneStands() {
        Due.says("the least, the greatest one (-5); CHOSEN: .. -5; its GAIN (-5: none STANDS)");
        DayKnown x = Due.people("good 1 h<3", DOER, 0, CONTRARY, 0);
        Due.is("none stands", x.all(0), 0);
        for (int what = 1; what < 5; what++) {
            Due.is("none stands, what " + what, x.all(what), -5);
        }
        DayKnown one = Due.people("harm 5 h=0", TOLD, 0);
        one.row(0, 1);
        Due.is("one stands", one.all(0), 1);
        Due.is("one stands, by a gain of -5", one.all(4), -5);
        Due.is("one stands", one.all(3), 1);
    }

    private static void chosen() {
        Due.says("CHOSEN: of those the one with the greatest GAIN of all together (of several the least)");
        // Days 1, 2, 3 and those with hour 2 as well gain 1, day 0 gains 0.
        Due.is("the least of several, not the first", Due.people("good 1 h<2;harm 1 h=1&y=1", PLAIN, 0).all(3), 1);
        DayKnown below = Due.people("harm 2 p=0;harm 1 p=1", TOLD, 0, PLAIN, 1);
        below.row(0, 7);
        Due.is("the greatest is below 0", below.all(3), 7);
        Due.is("the greatest is below 0", below.all(4), -6);
        Due.is("eight stand", below.all(0), 8);
        Due.is("the greatest day", below.all(2), 63);
        DayKnown last = Due.people("good 1 h<3", PLAIN, 0, PLAIN, 0);
        Due.is("the last day gains most", last.all(3), 63);
        Due.is("the least day", last.all(1), 0);
    }

    private static void once() {
        Due.says("ONCE: .. from that DAY on, first one STANDS (0 .. 60; 0: that DAY itself; -5: none); which one");
        DayKnown x = Due.people("", PLAIN, 0, DOER, 0);
        Due.is("that day itself stands", x.once(0, 0, 2, 0), 0);
        Due.is("that day itself stands", x.once(0, 0, 2, 1), 4);
        Due.is("it does otherwise back", x.once(8, 1, 0, 0), 0);
        Due.is("it does otherwise back", x.once(8, 1, 0, 1), 0);
        Due.is("the day told need not stand", x.once(8 + 1, 1, 0, 1), 1);
        Due.is("the next one stands", x.once(7, 1, 2, 0), 1);
        Due.is("the next one stands", x.once(7, 1, 2, 1), 7);
        DayKnown never = Due.people("", PLAIN, 0, CONTRARY, 0);
        Due.is("none", never.once(0, 0, 0, 0), -5);
        Due.is("none", never.once(0, 0, 0, 1), -5);
        for (int place = 0; place < 6; place++) {
            DayKnown bits = Due.people("", PLAIN, 0, PLAIN, 0);
            Due.is("otherwise at bit " + place, bits.once(0, place / 3, place % 3, 1), 1 << place);
            Due.is("otherwise at bit " + place, bits.once(63, place / 3, place % 3, 1), 63 - (1 << place));
        }
    }

    private static void onceAtSixty() {
        DayKnown x = Due.people("harm 1 m>1&y=1|n=1;good 8 n<1&y=1;good 2 p>1|n=1&!p>1;harm 7 n=2;harm 7 n>0&y=1",
            DOER, 0, BEST, 2, BEST, 2, PACT, 3);
        List<Integer> days = daysFrom(x, 620);
        Due.is("days that differ", days.size(), 79);
        Due.is("the last one stands", x.day(days.get(78), 0), -5);
        for (int i = 0; i < 78; i++) {
            Due.holds("day " + i + " does not stand", x.day(days.get(i), 0) >= 0);
        }
        for (int i = 16; i < 79; i++) {
            // The day told is any day that tells otherwise of one at an hour.
            int person = i % 4;
            int hour = i / 4 % 3;
            int told = days.get(i) ^ 1 << 3 * person + hour;
            int on = 78 - i;
            Due.is("once, " + on + " days on", x.once(told, person, hour, 0), on <= 60 ? on : -5);
            Due.is("once, " + on + " days on, which", x.once(told, person, hour, 1), on <= 60 ? days.get(78) : -5);
        }
    }

    /** The days from one on, each the answer to the one ahead of it, as long as they differ. */
    private static List<Integer> daysFrom(DayKnown x, int first) {
        List<Integer> days = new ArrayList<>();
        for (int day = first; !days.contains(day); day = x.day(day, 1)) {
            days.add(day);
        }
        return days;
    }

    private static void again() {
        Due.says("AGAIN: .. from a told one on (0), .. first one comes that was there (1 .. 200; -5: none)");
        DayKnown x = Due.people("", PLAIN, 0, CONTRARY, 1);
        Due.is("two by turns", x.again(0, 0), 2);
        Due.is("two by turns", x.again(0, 1), 2);
        Due.is("two by turns, from a day that was not there", x.again(8, 0), 3);
        Due.is("two by turns, from a day that was not there", x.again(8, 1), 2);
        DayKnown one = Due.people("", PLAIN, 0);
        Due.is("a day that stands", one.again(5, 0), 1);
        Due.is("a day that stands", one.again(5, 1), 1);
        DayKnown next = Due.people("", DOER, 0);
        Due.is("the next one stands", next.again(5, 0), 2);
        Due.is("the next one stands", next.again(5, 1), 1);
        Due.is("of nobody", new DayKnown().again(0, 0), 1);
    }

    private static void againAtTwoHundred() {
        DayKnown x = Due.people("good 10 k=0|n>0;harm 7 n>1|y=0;harm 3 n>0;good 6 n=2&y=0;"
            + "harm 1 !n>0|m>1&p<3&y>0;harm 1 m>2", BEST, 4, DOER, 0, DOER, 5, BEST, 3);
        x.note(1, true);
        x.note(3, true);
        List<Integer> days = daysFrom(x, 423);
        Due.is("days that differ", days.size(), 201);
        int back = days.indexOf(x.day(days.get(200), 1));
        Due.is("the first day that comes again", back, 94);
        Due.is("201 days on", x.again(423, 0), -5);
        Due.is("201 days on", x.again(423, 1), -5);
        for (int i = 1; i <= 94; i++) {
            Due.is("again, " + (201 - i) + " days on", x.again(days.get(i), 0), 201 - i);
            Due.is("again, " + (201 - i) + " days on", x.again(days.get(i), 1), 107);
        }
        Due.is("of those that come again", x.again(days.get(200), 0), 107);
        DayKnown far = Due.people("good 30 !h=1&p<3&p=2|p=0|n=1;harm 29 n<3|y=1;good 4 n<3&!n=1&p<2;harm 3 !p=3;"
            + "good 2 m=2|n=1&p<3|p=2", DOER, 1, PACT, 2, DOER, 5, DOER, 5);
        Due.is("522 days differ", daysFrom(far, 3382).size(), 522);
        Due.is("522 days on", far.again(3382, 0), -5);
        Due.is("522 days on", far.again(3382, 1), -5);
    }

    private static void mornings() {
        Due.says("MORNING: .. then the NOTE of each is there, if by it one DOES IT in note HOURS or more, else not");
        for (int note = 0; note < 5; note++) {
            DayKnown x = Due.people("note " + note, TOLD, 0, TOLD, 0, TOLD, 0, TOLD, 0);
            int due = 0;
            for (int person = 0; person < 4; person++) {
                x.row(person, (1 << person) - 1);
                x.note(person, person % 2 == 0);
                due |= person >= note ? 1 << person : 0;
            }
            int day = 1 << 3 | 3 << 6 | 7 << 9;
            Due.is("the day", x.morning(), day);
            Due.is("the notes by note " + note, x.told(2), due);
            Due.is("yesterday", x.told(1), day);
        }
        Due.is("note 99", notesAfterMorning("note 99", 7), 0);
        Due.is("without note", notesAfterMorning("good 1 h=0", 0), 1);
        Due.is("without a town", notesAfterMorning("", 0), 1);
        Due.says("the DAY is what is CHOSEN, if some STAND; else the ANSWER to YESTERDAY");
        DayKnown never = Due.people("", PLAIN, 0, CONTRARY, 1);
        never.yesterday(7 + 8);
        Due.is("the answer to yesterday", never.morning(), 7 + 16);
        Due.is("the answer to that", never.morning(), 7);
        Due.is("the answer to that", never.morning(), 7 + 16);
        DayKnown some = Due.people("", PLAIN, 0);
        some.yesterday(7);
        Due.is("what is chosen", some.morning(), 0);
        Due.is("of nobody", new DayKnown().morning(), 0);
        DayKnown one = Due.people("good 1 p=1&n=1|p=0&h=0", DOER, 0, DOER, 0);
        Due.is("one stands", one.all(0), 1);
        Due.is("it is not the answer to yesterday", one.day(0, 1), 1);
        Due.is("what is chosen", one.morning(), 9);
        DayKnown notes = Due.people("good 1 y=1&h=0;good 1 h=1;note 1", DOER, 0);
        Due.is("without note", notes.morning(), 2);
        Due.is("what stands by the note", notes.all(3), 3);
        Due.is("by the note", notes.morning(), 3);
        DayKnown stranger = Due.people("good 1 n=1", STRANGER, 0, TOLD, 0);
        stranger.row(1, 5);
        Due.is("by yesterday 0", stranger.morning(), 5 << 3);
        Due.is("what stands by yesterday", stranger.all(3), 5 << 3 | 5);
        Due.is("by yesterday", stranger.morning(), 5 << 3 | 5);
    }

    private static int notesAfterMorning(String text, int row) {
        DayKnown x = Due.people(text, TOLD, 0);
        x.row(0, row);
        x.note(0, true);
        x.morning();
        return x.told(2);
    }

    private static void yearFromOneToThirty() {
        Due.says("YEAR of n (1 .. 30): n MORNINGS from now on, put back then");
        DayKnown x = Due.people("good 3 h=0", DOER, 0, CONTRARY, 0);
        DayKnown day = Due.people("good 3 h=0", DOER, 0, CONTRARY, 0);
        int gain = 0;
        for (int n = 1; n <= 30; n++) {
            gain += day.day(day.morning(), 2);
            Due.is("gain of " + n, x.year(n, 0), gain);
            Due.is("none stood on " + n, x.year(n, 1), n);
        }
        // The other one does it at 0 on every second morning, first on the first.
        Due.is("gain of 30", x.year(30, 0), 30 * 3 + 15 * 3);
        Due.is("n 0", x.year(0, 0), -10002);
        Due.is("n 31", x.year(31, 0), -10002);
        Due.is("n -1", x.year(-1, 1), -10002);
        Due.is("n 0", x.year(0, 1), -10002);
        Due.is("n 31", x.year(31, 1), -10002);
        Due.is("yesterday is put back", x.told(1), 0);
        Due.is("the notes are put back", x.told(2), 0);
        Due.says("GAIN of all by each DAY (NOTES as they were ahead of that MORNING's end), together");
        DayKnown notes = Due.people("good 1 y=0&h=0;good 5 y=1&h=0;note 1", DOER, 0);
        Due.is("the note is not there yet", notes.year(1, 0), 1);
        Due.is("it is there on the second", notes.year(2, 0), 1 + 5);
        DayKnown gone = Due.people("good 5 y=1&h=0;note 2", DOER, 0);
        gone.note(0, true);
        Due.is("the note is there yet", gone.year(1, 0), 5);
        Due.is("it is gone on the second", gone.year(30, 0), 5);
        Due.is("the note is put back", gone.told(2), 1);
        Due.is("year of nobody", new DayKnown().year(30, 0), 0);
        Due.says("on how many none STOOD");
        Due.is("some stand", gone.year(30, 1), 0);
        // Without its note the first one does nothing; with it there is no day that stands.
        DayKnown second = Due.people("good 1 n=0&p=0&y=1&h=0;harm 9 p=1", DOER, 0, PACT, 1);
        Due.is("one stands on the first", second.year(1, 1), 0);
        Due.is("none on the second", second.year(2, 1), 1);
        Due.is("none from the second on", second.year(30, 1), 29);
    }

    private static void bets() {
        Due.says("BET .. by how many STAND: a fraction in lowest terms (0 by 1, if none does)");
        bet("half of eight", Due.people("", PLAIN, 0), 1, 2);
        bet("all of one", Due.people("good 1 h<3", DOER, 0), 1, 1);
        bet("none of one", Due.people("", DOER, 0), 0, 1);
        bet("none of eight", Due.people("harm 1 p=0", PLAIN, 0, PLAIN, 0), 0, 1);
        bet("none stands", Due.people("", CONTRARY, 1), 0, 1);
        bet("none stands", Due.people("good 1 h=0", DOER, 0, CONTRARY, 1), 0, 1);
        // At 0 three of four ways stand: the second one does it with the first alone.
        DayKnown three = Due.people("harm 1 p=1&n=0&h=0;harm 1 h>0", PLAIN, 0, PLAIN, 0);
        Due.is("days that stand", three.all(0), 3);
        bet("two of three", three, 2, 3);
        Due.is("one of three", three.bet(1, 0, 0), 1);
        Due.is("one of three", three.bet(1, 0, 1), 3);
        DayKnown six = Due.people("harm 1 p=1&n=0&h=0;harm 1 h>0&p<2|p=2&h<2", PLAIN, 0, PLAIN, 0, PLAIN, 0);
        Due.is("days that stand", six.all(0), 6);
        bet("four of six", six, 2, 3);
        DayKnown twelve = Due.people("harm 1 n=0|h>0", PLAIN, 1, PLAIN, 0);
        Due.is("days that stand", twelve.all(0), 12);
        bet("eight of twelve", twelve, 2, 3);
    }

    private static void bet(String what, DayKnown x, int above, int below) {
        Due.is(what + ", above", x.bet(0, 0, 0), above);
        Due.is(what + ", below", x.bet(0, 0, 1), below);
    }

    private static void sureOfFewest() {
        Due.says("SURE: .. just one DAY would STAND; of several that of the fewest, then the least as bits");
        Due.is("of nobody", new DayKnown().sure(), 0);
        Due.is("one stands as it is", Due.people("", DOER, 0, DOER, 0).sure(), 0);
        Due.is("0 or 1: the least", Due.people("good 1 n=1", DOER, 0, DOER, 0).sure(), 1);
        Due.is("1 or 2: the least", Due.people("good 1 n=1&p>0", DOER, 0, DOER, 0, DOER, 0).sure(), 2);
        // The third does it at 0 and 1 if both others do at 1, who do if the third did at 0.
        DayKnown fewest = Due.people("good 9 h=1&p=2&n=2&y=1;good 1 h=1&p<2&m=1", DOER, 0, DOER, 0, BEST, 0);
        Due.is("two stand", fewest.all(0), 2);
        Due.is("the third rather than both others", fewest.sure(), 4);
        Due.is("two of three", Due.people("", PLAIN, 0, DOER, 0, PLAIN, 0).sure(), 5);
        Due.is("all four", Due.people("", PLAIN, 0, PLAIN, 0, PLAIN, 0, PLAIN, 0).sure(), 15);
        Due.is("the last one", Due.people("", DOER, 0, DOER, 0, DOER, 0, PLAIN, 0).sure(), 8);
    }

    private static void sureOfNone() {
        Due.says("SURE: .. (-5: by none; also if none STANDS now)");
        DayKnown x = Due.people("", CONTRARY, 0);
        Due.is("none stands now", x.sure(), -5);
        Due.is("none stands now", Due.people("", PLAIN, 0, CONTRARY, 0).sure(), -5);
        Due.is("nothing changed", x.of(0, 0), CONTRARY);
        Due.is("nothing changed", x.of(0, 2), -5);
        DayKnown free = Due.people("", PLAIN, 3, TOLD, 4);
        free.row(1, 2);
        Due.is("told one, and one who is free", free.sure(), 1);
        Due.is("nothing changed", free.of(0, 0), PLAIN);
        Due.is("nothing changed", free.of(1, 2), 2);
        Due.is("nothing changed", free.all(0), 8);
    }

    private static void secrets() {
        Due.says("SECRET of one: what would be CHOSEN, if it were of KIND STRANGER (-5: none would STAND)");
        DayKnown never = Due.people("good 1 k=3&h=2", DOER, 0, CONTRARY, 1);
        Due.is("none would stand", never.secret(0, 0), -5);
        Due.is("some would stand", never.secret(1, 0), 32);
        Due.says("SURPRISE of one: .. (-5: one of both is not there)");
        Due.is("neither is there", never.secret(0, 1), -5);
        Due.is("what is chosen as it is is not there", never.secret(1, 1), -5);
        Due.is("both are there, and are the same", Due.people("", DOER, 0, PLAIN, 0).secret(0, 1), 0);
        DayKnown follow = Due.people("good 1 p=0&k=3;good 1 p=1&n>0;harm 9 p=2&n=1", DOER, 0, DOER, 0, PACT, 2);
        Due.is("as it is", follow.all(3), 0);
        Due.is("as a STRANGER it does it, and the others follow", follow.secret(0, 0), 511);
        Due.is("three hours", follow.secret(0, 1), 3);
        // The second one does it only if the third one does not, who does it just where the second one does.
        DayKnown goes = Due.people("good 1 p=0&k=3;good 1 p=1&n=1;harm 9 p=2&n=1", DOER, 0, DOER, 0, PACT, 2);
        Due.is("as it is", goes.all(3), 0);
        Due.is("none would stand", goes.secret(0, 0), -5);
        Due.is("what would be chosen is not there", goes.secret(0, 1), -5);
        for (int row = 0; row < 8; row++) {
            DayKnown x = Due.people("good 1 n=1", TOLD, 0, TOLD, 7);
            x.row(0, row);
            x.row(1, 7);
            x.yesterday(56);
            Due.is("from row " + row + " to 7", x.secret(0, 1), 3 - Integer.bitCount(row));
        }
    }

    private static void swaps() {
        Due.says("SWAP: .. the GAIN of each of both were more: how many; the first (.. -5)");
        Due.is("of nobody", new DayKnown().swap(0), 0);
        Due.is("of nobody", new DayKnown().swap(1), -5);
        Due.is("of one", Due.people("good 1 h=0", DOER, 0).swap(0), 0);
        Due.is("of one", Due.people("good 1 h=0", DOER, 0).swap(1), -5);
        Due.is("gains as they are", Due.people("good 5 h=0", DOER, 0, DOER, 0).swap(0), 0);
        Due.is("gains as they are", Due.people("good 5 h=0", DOER, 0, DOER, 0).swap(1), -5);
        Due.is("more to both", Due.people("good 5 p=0&k=2|p=1&k=0", DOER, 0, PLAIN, 0).swap(0), 1);
        Due.is("more to both", Due.people("good 5 p=0&k=2|p=1&k=0", DOER, 0, PLAIN, 0).swap(1), 1);
        Due.is("more to the lesser alone", Due.people("good 5 p=0&k=2", DOER, 0, PLAIN, 0).swap(0), 0);
        Due.is("more to the other alone", Due.people("good 5 p=1&k=0", DOER, 0, PLAIN, 0).swap(0), 0);
        Due.is("one more to each", Due.people("good 1 h=0;good 1 h=0&p=0&k=2|h=0&p=1&k=0", DOER, 0, PLAIN, 0)
            .swap(0), 1);
        DayKnown six = Due.people("good 5 p<2&k=2|p>1&k=0", DOER, 0, DOER, 0, PLAIN, 0, PLAIN, 0);
        Due.is("four pairs", six.swap(0), 4);
        Due.is("the first of four", six.swap(1), 2);
        DayKnown last = Due.people("good 5 p=2&k=2|p=3&k=0", DOER, 0, DOER, 0, DOER, 0, PLAIN, 0);
        Due.is("the last pair", last.swap(0), 1);
        Due.is("the last pair", last.swap(1), 23);
        Due.is("no such what", last.swap(2), -1);
        Due.is("no such what", last.swap(-1), -1);
    }

    private static void swapOfV() {
        Due.says("each had the other's KIND and v (a ROW, 0 if it had none, stays its own)");
        // The second one bears its harm at 0 only by the first one's v; both are the better for it at 1.
        String text = "harm 4 h=0;good 9 h=1&m=1&p=0;good 9 h=1&y=1&p=1";
        DayKnown v = Due.people(text, PLAIN, 4, PLAIN, 0);
        Due.is("the v goes over", v.swap(0), 1);
        Due.is("the v goes over", v.swap(1), 1);
        Due.is("nothing changed", v.of(0, 1), 4);
        Due.is("a v too small", Due.people(text, PLAIN, 3, PLAIN, 0).swap(0), 0);
        String other = "harm 4 h=0;good 9 h=1&m=1&p=1;good 9 h=1&y=1&p=0";
        Due.is("the v comes over", Due.people(other, PLAIN, 0, PLAIN, 4).swap(0), 1);
        // If both had the v, both would bear the harm at 0, and lose the good at 1.
        String apart = other + ";harm 9 h=1&y=1&p=1";
        Due.is("the v comes over", Due.people(apart, PLAIN, 0, PLAIN, 4).swap(0), 1);
        DayKnown both = Due.people("good 5 p=0&h>0;good 5 p=1&h=0", TOLD, 0, TOLD, 9);
        both.row(0, 1);
        both.row(1, 6);
        Due.is("rows stay", both.swap(0), 0);
        DayKnown none = Due.people("good 3 p=0&k=4;harm 2 p=1&k=4;harm 9 p=1&k=6", TOLD, 0, PACT, 0);
        none.row(0, 7);
        Due.is("a row of 0 gains more than harm", none.swap(0), 1);
        Due.is("nothing changed", none.of(0, 2), 7);
        Due.is("nothing changed", none.of(1, 2), -5);
        Due.says("SWAP: .. some DAY would STAND");
        DayKnown gone = Due.people("good 1 n=0&p=0;harm 9 p=1", PACT, 1, DOER, 0);
        Due.is("some stand now", gone.all(0), 8);
        Due.is("none would stand", gone.swap(0), 0);
        Due.is("none would stand", gone.swap(1), -5);
    }

    private static void bookOfTen() {
        Due.says("BOOK told by hand: DAYS (10 at most) .. (-1: it is empty then, 0). BAD; FULL: 10");
        DayKnown x = Due.people("", DOER, 0);
        Due.is("of an empty one", x.book(-1), 0);
        for (int i = 1; i <= 10; i++) {
            Due.is("day " + i, x.book(0), i);
        }
        Due.is("one more", x.book(0), -4);
        Due.is("one more that is bad", x.book(8), -2);
        Due.is("how many", x.count(2), 10);
        Due.is("how many stand", x.looked(0), 10);
        Due.is("the first that doesn't", x.looked(1), -5);
        Due.is("empty", x.book(-1), 0);
        Due.is("how many", x.count(2), 0);
        Due.is("how many stand", x.looked(0), 0);
        Due.is("the first that doesn't", x.looked(1), -5);
        Due.is("-2", x.book(-2), -2);
        Due.is("8", x.book(8), -2);
        Due.is("7", x.book(7), 1);
        Due.is("how many stand", x.looked(0), 0);
    }

    private static void lookedAt() {
        Due.says("LOOKED at: how many of them STAND; the first that doesn't (-5)");
        DayKnown x = Due.people("", PLAIN, 0, DOER, 0);
        for (int i = 0; i < 9; i++) {
            x.book(i % 8);
        }
        Due.is("all stand", x.looked(0), 9);
        Due.is("all stand", x.looked(1), -5);
        x.book(40);
        Due.is("the last doesn't", x.looked(0), 9);
        Due.is("the last doesn't", x.looked(1), 40);
        x.book(-1);
        x.book(33);
        x.book(9);
        x.book(2);
        Due.is("the first and the next don't", x.looked(0), 1);
        Due.is("the first and the next don't", x.looked(1), 33);
        DayKnown never = Due.people("", CONTRARY, 0);
        never.book(0);
        Due.is("day 0 doesn't", never.looked(1), 0);
        Due.is("day 0 doesn't", never.looked(0), 0);
        never.book(1);
        Due.is("day 0 is the first that doesn't", never.looked(1), 0);
        Due.is("no such what", never.looked(2), -1);
        Due.is("no such what", never.looked(-1), -1);
    }

    private static void wrappingActs() {
        Due.says("ACTS of one of the PEOPLE with x (ints, wrapping)");
        DayKnown x = Due.people("", PLAIN, 9, TOLD, 9, PACT, 0, BEST, 1);
        Due.is("1: x + i", x.act(1, 0, MAX), MIN);
        Due.is("2, 21: -(x - v)", x.act(0, 1, MIN), MIN + 9);
        Due.is("21: -MIN", x.act(2, 1, MIN), -(MIN + 2));
        Due.is("61: x + i - v + v", x.act(1, 1, MAX), MIN);
        Due.is("3: twice", x.act(0, 2, MIN), 18);
        Due.is("31: of it all", x.act(1, 2, MAX), 7);
        Due.is("11: x * 3 + i", x.act(3, 0, MAX), MAX - 2 + 3);
        Due.is("11: x * 3 + i - v", x.act(3, 1, MIN), MIN + 2);
        Due.is("41: x - 1", x.act(2, 2, MIN), -2 * (MAX + 2) + 4);
        DayKnown first = Due.people("", PLAIN, 0);
        Due.is("21: -MIN wraps", first.act(0, 1, MIN), MIN);
        DayKnown contrary = Due.people("", DOER, 0, CONTRARY, 0);
        Due.is("51: ^ i", contrary.act(1, 0, MAX), MIN + 1);
        Due.is("51: ^ i", contrary.act(1, 0, 2), 2);
        Due.is("51: ^ i", contrary.act(1, 0, 3), 5);
        Due.is("31: ^ 7", Due.people("", STRANGER, 1).act(0, 2, 4), 1);
        Due.says("act: An ACT (0 knows, 1 does, 2 tells) .. 0, and no TRACE then: no such one, act.");
        for (int kind : KINDS) {
            DayKnown no = Due.people("", kind, 3);
            for (int act : new int[] {-1, -2, -3, 3, 4, 5, MIN, MAX}) {
                no.act(0, 2, 1);
                Due.is("act " + act + " of kind " + kind, no.act(0, act, 5), 0);
                Due.is("no bodies", no.count(4), 0);
                Due.is("no trace", no.trace(0), -1);
            }
        }
    }

    private static void traces() {
        Due.says("THE TRACE: the numbers of the bodies that ran in the latest act(), .. the first 20 are kept");
        int[][] due = {{3, 2, 1}, {3, 2, 11, 1}, {3, 21, 2, 1}, {31, 3, 2, 1}, {41, 3, 21, 2, 1, 1},
            {31, 3, 2, 51, 1}, {31, 3, 61, 2, 1}};
        for (int kind : KINDS) {
            DayKnown x = Due.people("", kind, 3);
            Due.is("ahead of all acts", x.trace(0), -1);
            Due.is("ahead of all acts", x.count(4), 0);
            x.act(0, 2, 1);
            Due.is("tells of kind " + kind, x.count(4), due[kind].length);
            for (int i = 0; i < due[kind].length; i++) {
                Due.is("tells of kind " + kind + ", body " + i, x.trace(i), due[kind][i]);
            }
            Due.is("behind the last", x.trace(due[kind].length), -1);
            Due.is("ahead of the first", x.trace(-1), -1);
            Due.is("the 20th", x.trace(19), -1);
            Due.is("the 21st", x.trace(20), -1);
            x.act(0, 0, 1);
            int bodies = kind == BEST || kind == CONTRARY ? 2 : 1;
            Due.is("the latest act alone", x.count(4), bodies);
            Due.is("the latest act alone", x.trace(bodies), -1);
        }
    }

    private static void kindsAbove() {
        Due.says("One of the PEOPLE taken for a KIND k (0 .. 6), or one under that: its v. -6: it is of another KIND");
        // Bits of the kinds as which each may be taken.
        int[] taken = {1, 1 + 2, 1 + 4, 1 + 8, 1 + 4 + 16, 1 + 8 + 32, 1 + 8 + 64};
        for (int kind : KINDS) {
            DayKnown x = Due.people("", kind, 0, kind, 9);
            for (int k = 0; k < 7; k++) {
                boolean is = (taken[kind] >> k & 1) == 1;
                Due.is("kind " + kind + " of v 0 as " + k, x.as(0, k), is ? 0 : -6);
                Due.is("kind " + kind + " of v 9 as " + k, x.as(1, k), is ? 9 : -6);
            }
            Due.is("k -1", x.as(0, -1), -1);
            Due.is("k 7", x.as(0, 7), -1);
            Due.is("nobody", x.as(2, 0), -1);
            Due.is("nobody", x.as(-1, 0), -1);
        }
    }

    private static void images() {
        Due.says("All is as THE IMAGE: how many PEOPLE. STATE: there is none.");
        DayKnown x = new DayKnown();
        Due.is("there is none", x.undo(), -3);
        Due.is("of nobody", x.image(), 0);
        x.person(TOLD, 5);
        Due.is("back to nobody", x.undo(), 0);
        Due.is("nobody", x.of(0, 0), -1);
        Due.is("a day of nobody", x.day(1, 0), -10002);
        for (int people = 1; people <= 4; people++) {
            x.person(TOLD, 1);
            Due.is("image", x.image(), people);
            Due.is("undo at once", x.undo(), people);
        }
        Due.is("one more is refused", x.person(0, 0), -4);
        x.row(3, 7);
        Due.is("the latest image", x.undo(), 4);
        Due.is("as it was", x.of(3, 2), 0);
        Due.is("once more", x.undo(), 4);
        DayKnown fewer = Due.people("good 1 h=0", DOER, 0);
        fewer.book(1);
        fewer.book(0);
        fewer.image();
        fewer.book(-1);
        fewer.book(2);
        fewer.book(3);
        fewer.book(4);
        fewer.person(TOLD, 5);
        fewer.row(1, 7);
        fewer.note(1, true);
        fewer.undo();
        Due.is("the days of the book", fewer.count(2), 2);
        Due.is("the days of the book", fewer.looked(0), 1);
        Due.is("the days of the book", fewer.looked(1), 0);
        fewer.person(TOLD, 6);
        Due.is("another one's v", fewer.of(1, 1), 6);
        Due.is("another one's row", fewer.of(1, 2), 0);
        Due.is("another one's note", fewer.of(1, 3), 0);
        Due.says("THE IMAGE: all that there is (but THE IMAGE and THE TRACE)");
        x.act(3, 2, 1);
        x.undo();
        Due.is("the trace is as it was", x.count(4), 5);
        Due.is("the trace is as it was", x.trace(4), 1);
        x.act(9, 0, 0);
        x.undo();
        Due.is("the trace is not brought back", x.count(4), 0);
    }

    private static void imageOfTowns() {
        DayKnown x = Due.people("", DOER, 0);
        x.feed('n');
        x.image();
        for (int i = 0; i < 5; i++) {
            Due.is("the tape's sign, and more", Due.town(x, i == 0 ? "ote 1" : "note 1"), i);
        }
        for (int i = 0; i < 10; i++) {
            x.book(0);
        }
        for (int i = 0; i < 100; i++) {
            x.feed('x');
        }
        Due.is("full", x.town(), -4);
        Due.is("back", x.undo(), 1);
        Due.is("no towns", x.count(1), 0);
        Due.is("no note", x.told(0), 0);
        Due.is("no days in the book", x.count(2), 0);
        Due.is("one sign", x.count(3), 1);
        Due.is("towns from 0 on", Due.town(x, "ote 7"), 0);
        Due.is("note", x.told(0), 7);
        x.image();
        Due.is("the next town", Due.town(x, "good 4 h=0"), 1);
        Due.is("its worth", x.by(0, 0, 0, 0), 4);
        x.undo();
        Due.is("the one that held", x.told(0), 7);
        Due.is("no worth", x.by(0, 0, 0, 0), 0);
        Due.is("a fault", Due.town(x, "good 5 h=0;"), -21);
        Due.is("no worth", x.by(0, 0, 0, 0), 0);
        Due.is("the one that held", x.told(0), 7);
    }

    private static void callsUpTo512() {
        Due.says("An object is used for at most 512 calls after it has been made");
        String text = "good 2 n>0;harm 1 h=1;note 3";
        DayKnown x = Due.people(text, DOER, 0, DOER, 0, DOER, 0, DOER, 0);
        int calls = text.length() + 1 + 4;
        for (int turn = 0; calls + 12 <= 512; turn++) {
            int person = turn % 4;
            Due.is("image", x.image(), 4);
            Due.is("note", x.note(person, true), 0);
            Due.is("yesterday", x.yesterday(turn), 0);
            Due.is("morning", x.morning(), 4095);
            Due.is("notes", x.told(2), 15);
            Due.is("year", x.year(30, 0), 30 * 4 * 5);
            Due.is("sure", x.sure(), 1);
            Due.is("secret", x.secret(person, 1), 0);
            Due.is("swap", x.swap(0), 0);
            Due.is("act", x.act(person, 2, turn), 2 * (turn + person));
            Due.is("book", x.book(turn), 1);
            Due.is("undo", x.undo(), 4);
            calls += 12;
        }
        while (calls < 511) {
            Due.is("fill", x.count(0), 4);
            calls++;
        }
        Due.is("the last of 512", x.all(3), 4095);
    }
}
