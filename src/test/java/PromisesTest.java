import java.nio.charset.StandardCharsets;

/** Each promise of the document by itself: ordinary inputs, the edges that it names, wrong inputs. */
public final class PromisesTest {
    private static final String RING_TOWN =
            "town 4;street 0 1 years 3;street 1 2 back 2 sign 2;street 2 3 years 5;street 3 0 back 6;"
            + "goer 0 year 5;goer 2 year 10;bollards 1;may : not street = 2 or bollards < 3;";

    /** Round and round, a year more each time, to all 120 spots; from the last one by street 0 to the first. */
    private static final String ALL_SPOTS =
            "town 6;street 5 0;street 0 1;street 1 2;street 2 3;street 3 4;street 4 5;street 5 0;goer 0 year 0;"
            + "shifts : if street = 6 then 1 else if street = 0 then 0 - 19 else 0 end end;may : street > 0 or year = 19;";

    private static int wrong = 0;
    private static int checks = 0;

    private static void due(String call, long got, long want) {
        checks++;
        if (got != want) {
            wrong++;
            System.out.println(call + " answered " + got + ", due is " + want);
        }
    }

    private static int feed(OneWayPast x, String text) {
        byte[] bytes = text.getBytes(StandardCharsets.ISO_8859_1);
        int answer = 0;
        for (int from = 0; from < bytes.length; from += 20) {
            int[] five = new int[5];
            for (int i = 0; i < 20; i++) {
                int b = from + i < bytes.length ? bytes[from + i] & 255 : ' ';
                five[i / 4] = five[i / 4] << 8 | b;
            }
            answer = x.feed(five[0], five[1], five[2], five[3], five[4]);
        }
        return answer;
    }

    private static int tell(OneWayPast x, String text) {
        feed(x, text);
        return x.town(text.length());
    }

    private static OneWayPast told(String text) {
        OneWayPast x = new OneWayPast();
        int answer = tell(x, text);
        if (answer < 0) {
            wrong++;
            System.out.println("a text is refused by " + answer + ": " + text);
        }
        return x;
    }

    private static void tray(OneWayPast x, int tray, int sort, long... values) {
        due("numbers", x.numbers(tray, sort, values.length), 0);
        for (int i = 0; i < values.length; i++) {
            due("write " + values[i], x.write(tray, i, values[i]), values[i]);
        }
    }

    private static void faultDue(String text, int kind, int place) {
        OneWayPast x = new OneWayPast();
        due("town of <" + text + ">", tell(x, text), -30 - kind);
        due("fault(0) of <" + text + ">", x.fault(0), kind);
        due("fault(1) of <" + text + ">", x.fault(1), place);
    }

    public static void main(String[] args) {
        newObject();
        feeding();
        towns();
        laws();
        faults();
        faultAnswers();
        streets();
        goers();
        whyNot();
        byGoing();
        goes();
        signs();
        bollardsCalls();
        puts();
        undoing();
        judging();
        performing();
        days();
        coming();
        ways();
        rows();
        whens();
        bounds();
        reaches();
        meetings();
        rings();
        bylaws();
        shutting();
        needed();
        took();
        attempts();
        forcing();
        chances();
        means();
        likeliest();
        trays();
        listing();
        images();
        counts();
        System.out.println(checks + " checks, " + wrong + " wrong");
        if (wrong != 0) {
            System.exit(1);
        }
    }

    // Promise 1
    private static void newObject() {
        OneWayPast x = new OneWayPast();
        int[] want = {1, 0, 0, 0, 0, 0, 0, 0, 0};
        for (int i = 0; i < want.length; i++) {
            due("1 count " + i, x.count(i), want[i]);
        }
        due("1 fault 0", x.fault(0), 0);
        due("1 fault 1", x.fault(1), -1);
        due("1 perform", x.perform(0), -6);
        due("1 write", x.write(3, 0, 1), -6);
        due("1 restore", x.restore(1), -5);
        due("1 NONE", OneWayPast.NONE, -1);
    }

    // Promise 2
    private static void feeding() {
        OneWayPast x = new OneWayPast();
        for (int i = 1; i <= 45; i++) {
            due("2 feed " + i, x.feed(0x20202020, 0x20202020, 0x20202020, 0x20202020, 0x20202020), 20 * i);
        }
        due("2 feed 46", x.feed(0, 0, 0, 0, 0), -5);
        due("2 count", x.count(7), 900);
        due("2 a text of 900 blanks", x.town(900), -32);
        due("2 its place", x.fault(1), 900);
        due("2 empty then", x.count(7), 0);
        // The highest byte of each int comes first.
        due("2 feed", x.feed(0x746f776e, 0x20333b20, 0x20202020, 0x20202020, 0x20202020), 20);
        due("2 town", x.town(20), 1);
        due("2 corners", x.count(0), 3);
    }

    // Promise 3
    private static void towns() {
        OneWayPast x = told("town 2;goer 1 year 7;");
        due("3 put", x.put(0, 0, 3), 107);
        feed(x, "town 3;");
        due("3 below 0", x.town(-1), -3);
        due("3 above", x.town(21), -3);
        due("3 the tape stays", x.count(7), 20);
        due("3 can be undone still", x.count(6), 1);
        due("3 a fault", x.town(6), -32);
        due("3 the tape is empty", x.count(7), 0);
        due("3 all stays: corners", x.count(0), 2);
        due("3 all stays: undo", x.count(6), 1);
        due("3 all stays: lines", x.count(8), 2);
        due("3 all stays: goer", x.goer(0, 1), 3);
        due("3 no text", x.town(0), -32);
        due("3 its place", x.fault(1), 0);
        due("3 lines", tell(x, "town 1;bollards 4;bollards 5;"), 3);
        due("3 nothing can be undone", x.count(6), 0);
        due("3 nothing can be undone", x.undo(1), -3);
        due("3 a later one strikes", x.count(3), 5);
        due("3 no goers any more", x.goer(0, 0), -2);
        due("3 no blanks needed", tell(x, "town2;street0 1sign3years7;\n\n"), 2);
        due("3 sign", x.street(0, 2), 3);
        due("3 years", x.street(0, 3), 57);
        due("3 parts strike", tell(x, "town 2;street 1 0 years 4 back 5 sign 1 years 003 sign 2;"), 2);
        due("3 years", x.street(0, 3), 53);
        due("3 sign", x.street(0, 2), 2);
        due("3 eight streets, three goers", tell(x, "town 6;street 0 1;street 1 2;street 2 3;street 3 4;"
                + "street 4 5;street 5 0;street 0 3;street 1 4;goer 5 year 19;goer 0 year 0;goer 3 year 4;"), 12);
        due("3 the last street", x.street(7, 1), 4);
        due("3 the last goer", x.goer(2, 1), 4);
        // Each text has laws of its own, as long as a text can be.
        StringBuilder ones = new StringBuilder("1");
        for (int i = 0; i < 410; i++) {
            ones.append(i % 2 == 0 ? "+1" : "-1");
        }
        for (int i = 0; i < 5; i++) {
            due("3 a long law", tell(x, "town 2;street 0 1;goer 0 year " + i + ";shifts:" + ones + "+" + i + ";"), 4);
            due("3 a long law", x.by(0, 0, 1), 2 * i + 1);
        }
    }

    /** What shifts tells for the one street of a town, gone by a goer in year 10 (less 100: why not). */
    private static long shift(String sum) {
        OneWayPast x = told("town 2;street 0 1 back 3 sign 2;goer 0 year 10;goer 1 year 10;bollards 4;shifts:" + sum + ";");
        int whyNot = x.why(0, 0);
        return whyNot == 0 ? x.by(0, 0, 1) - 10 : -100 - whyNot;
    }

    private static long may(int g, String truth) {
        return told("town 2;street 0 1 back 3 sign 2;goer 0 year 10;goer 1 year 10;bollards 4;may:" + truth + ";").why(g, 0);
    }

    // The laws of promises 3, 7, 8, 9
    private static void laws() {
        due("sum", shift("1+2*3"), 7);
        due("left to right", shift("9-3-2"), 4);
        due("in brackets", shift("9-(3-2)"), 8);
        due("below 0", shift("0-10"), -10);
        due("below year 0", shift("0-11"), -104);
        due("year 19", shift("9"), 9);
        due("above year 19", shift("10"), -104);
        due("names", shift("years+5+street+against*7"), 2);
        due("bollards", shift("bollards"), 4);
        due("year", shift("year-8"), 2);
        due("kept below a million", shift("999*999*999-999*999-999-999"), 1);
        due("kept above less a million", shift("0-999*999*999+999*999+999+999+5"), 4);
        due("kept each time", shift("999*999+999+999+999-999*999-999-999"), 1);
        due("if", shift("if year=10 then 1 else 2 end"), 1);
        due("else", shift("if year<10 then 1 else 2 end+3"), 5);
        due("if in if", shift("if if 1>2 then 1 else 0 end=0 then 6 else 7 end"), 6);
        due("six within", shift("((((((3))))))"), 3);
        due("six again and again", shift("((((((3))))))+((((((2))))))*((((((2))))))"), 7);
        due("a later law strikes", told("town 2;street 0 1;goer 0 year 1;shifts:1;shifts:2;").by(0, 0, 1), 3);
        due("may of goer 0", may(0, "goer=0"), 0);
        due("may of goer 1", may(1, "goer=0"), 3);
        due("against", may(1, "against=1"), 0);
        due("and ahead of or", may(0, "1=1 or 1=2 and 1=2"), 0);
        due("brackets", may(0, "[1=1 or 1=2] and 1=2"), 3);
        due("not binds closest", may(0, "not 1=2 and 1=2"), 3);
        due("not of brackets", may(0, "not [1=2 and 1=2]"), 0);
        due("six nots", may(0, "not not not not not not 1=1"), 0);
        due("less", may(0, "1<2"), 0);
        due("not less", may(0, "2<2"), 3);
        due("more", may(0, "3>2"), 0);
        due("not more", may(0, "2>2"), 3);
        due("years as told", may(1, "0-3=years"), 0);
        due("a later may strikes", told("town 2;street 0 1;goer 0 year 1;may:1=2;may:1=1;").why(0, 0), 0);
        due("shifts don't hold goer", tell(new OneWayPast(), "town 1;shifts:goer;"), -32);
        due("deep in conditions", shift("if if if if if if 1=1 and 1=1 then 1 else 0 end=1 and 1=1 or 1=2 then 1 else 0 end=1"
                + " then 1 else 0 end=1 then 1 else 0 end=1 then 1 else 0 end=1 then 5 else 6 end"), 5);
    }

    // Promises 3 and 4: the faults
    private static void faults() {
        faultDue("", 2, 0);
        faultDue("  ", 2, 2);
        faultDue("Town 1;", 1, 0);
        faultDue("towns 1;", 2, 0);
        faultDue("town\t1;", 1, 4);
        faultDue("town 0001;", 1, 5);
        faultDue("town 001", 2, 8);
        faultDue("town 7 1000", 3, 5);
        faultDue("town 1000", 1, 5);
        faultDue("town 1 2;", 2, 7);
        faultDue("town 1;;", 2, 7);
        faultDue("town 1;\u00e9", 1, 7);
        faultDue("town 1;\0", 1, 7);
        faultDue("town 1;{", 1, 7);
        faultDue("town 1;zoo;", 2, 7);
        faultDue("town 1;street 0 0;", 3, 16);
        faultDue("town 2;street 2 0;", 3, 14);
        faultDue("town 2;street 0 2;", 3, 16);
        faultDue("town 2;street 0 1 years 10;", 3, 24);
        faultDue("town 2;street 0 1 back 10;", 3, 23);
        faultDue("town 2;street 0 1 sign 4;", 3, 23);
        faultDue("town 2;goer 2 year 0;", 3, 12);
        faultDue("town 2;" + "street 0 1;".repeat(8) + "street 0 1;", 4, 95);
        faultDue("town 2;" + "street 0 1;".repeat(8) + "street street;", 4, 95);
        faultDue("town 2;may : goer = 1;shifts : goer;", 2, 31);
        faultDue("town 2;town 2;", 2, 7);
        faultDue("town 2;street 1 1;", 3, 16);
        faultDue("town 2;street 0 1 years;", 2, 23);
        faultDue("town 2;street 0 1 year 1;", 2, 18);
        faultDue("town 2;street 0 1 sign 1000;", 1, 23);
        faultDue("town 2;goer 1 years 3;", 2, 14);
        faultDue("town 2;goer 1 year 20;", 3, 19);
        faultDue("town 2;goer 0 year 1;goer 0 year 1;goer 0 year 1;goer !", 4, 49);
        faultDue("town 2;bollards 10", 3, 16);
        faultDue("town 2;shifts = 1;", 2, 14);
        faultDue("town 2;shifts : 1 = 1;", 2, 18);
        faultDue("town 2;shifts : - 1;", 2, 16);
        faultDue("town 2;shifts : [1];", 2, 16);
        faultDue("town 2;shifts : not 1;", 2, 16);
        faultDue("town 2;shifts : if goer = 1 then 1 else 2 end;", 2, 19);
        faultDue("town 2;shifts : if 1 then 1 else 2 end;", 2, 21);
        faultDue("town 2;shifts : if 1 = 1 else 2 end;", 2, 25);
        faultDue("town 2;shifts : if 1 = 1 then 1 end;", 2, 32);
        faultDue("town 2;shifts : if 1 = 1 then 1 else 2;", 2, 38);
        faultDue("town 2;shifts : back;", 2, 16);
        faultDue("town 2;shifts : ((((((not 1))))));", 2, 22);
        faultDue("town 2;shifts : ((((((if 1))))));", 4, 22);
        faultDue("town 2;may : goer;", 2, 17);
        faultDue("town 2;may : (1 = 1);", 2, 16);
        faultDue("town 2;may : 1 = 1 = 1;", 2, 19);
        faultDue("town 2;may : [[[[[[[1 = 1]]]]]]];", 4, 19);
        faultDue("town 2;may : [[[[[[ 1 = (1) ]]]]]];", 4, 24);
        faultDue("town 2;may : [[[[[[ 1 = [1] ]]]]]];", 2, 24);
        faultDue("town 2;may : 1 = 1 and;", 2, 22);
        faultDue("town 2;may : 1 = 1 or", 2, 21);
        faultDue("town 2;may : 1 = 1", 2, 18);
        faultDue("town 2;may : not", 2, 16);
        faultDue("town 2;may : 1 = 12345;", 1, 17);
    }

    // Promise 4
    private static void faultAnswers() {
        OneWayPast x = told("town 2;");
        due("4 none", x.fault(0), 0);
        due("4 none", x.fault(1), -1);
        due("4 others", x.fault(2), -1);
        due("4 others", x.fault(-1), -1);
        tell(x, "town 9;");
        due("4 kind", x.fault(0), 3);
        due("4 place", x.fault(1), 5);
        due("4 not read", x.town(1), -3);
        due("4 of the latest that was read", x.fault(0), 3);
        tell(x, "town 3;");
        due("4 mended", x.fault(0), 0);
        due("4 mended", x.fault(1), -1);
    }

    // Promise 5
    private static void streets() {
        OneWayPast x = told("town 3;street 2 1 back 9 sign 3;street 0 1 years 9;");
        int[][] want = {{2, 1, 3, 41}, {0, 1, 0, 59}};
        for (int s = 0; s < 2; s++) {
            for (int what = 0; what < 4; what++) {
                due("5 street " + s + " " + what, x.street(s, what), want[s][what]);
            }
        }
        due("5 s", x.street(2, 0), -2);
        due("5 s", x.street(-1, 0), -2);
        due("5 what", x.street(0, 4), -2);
        due("5 what", x.street(0, -1), -2);
        due("5 s", x.street(Integer.MIN_VALUE, 0), -2);
        due("5 s", x.street(Integer.MAX_VALUE, 0), -2);
    }

    // Promise 6
    private static void goers() {
        OneWayPast x = told("town 3;street 0 1;street 1 0;street 1 0 sign 2;street 0 2 sign 1;street 0 1 back 5;"
                + "street 0 2 sign 3;goer 0 year 4;goer 2 year 19;");
        due("6 corner", x.goer(1, 0), 2);
        due("6 year", x.goer(1, 1), 19);
        due("6 streets", x.goer(0, 2), 0b000101);
        due("6 streets", x.goer(1, 2), 0b001000);
        due("6 what", x.goer(0, 3), -2);
        due("6 what", x.goer(0, -1), -2);
        due("6 g", x.goer(2, 0), -2);
        due("6 g", x.goer(-1, 0), -2);
    }

    // Promise 7
    private static void whyNot() {
        OneWayPast x = told("town 3;street 0 1 years 9;street 1 2;street 0 1 sign 1;street 0 1;street 0 2 back 9;"
                + "goer 0 year 11;may : not street = 3;");
        int[] want = {4, 2, 2, 3, 0};
        for (int s = 0; s < want.length; s++) {
            due("7 why " + s, x.why(0, s), want[s]);
        }
        due("7 no street", x.why(0, 5), 1);
        due("7 no street", x.why(0, -1), 1);
        due("7 no goer", x.why(1, 0), 1);
        due("7 no goer", x.why(-1, 0), 1);
        due("7 may ahead of the year", told("town 2;street 0 1 back 1;goer 0 year 0;may : 1 = 2;").why(0, 0), 3);
        due("7 going against takes years", told("town 2;street 0 1 years 1 sign 2;goer 1 year 0;").why(0, 0), 4);
        due("7 going back against gives years", told("town 2;street 0 1 back 1 sign 2;goer 1 year 0;").why(0, 0), 0);
    }

    // Promise 8
    private static void byGoing() {
        OneWayPast x = told("town 3;street 1 2 years 5 sign 2;goer 2 year 9;");
        due("8 corner", x.by(0, 0, 0), 1);
        due("8 year", x.by(0, 0, 1), 4);
        due("8 what", x.by(0, 0, 2), -2);
        due("8 what", x.by(0, 0, -1), -2);
        due("8 what ahead", x.by(5, 5, 2), -2);
        due("8 no goer", x.by(1, 0, 0), -5);
        due("8 no street", x.by(0, 1, 0), -5);
        due("8 nothing is done", x.goer(0, 1), 9);
        OneWayPast y = told("town 2;street 1 0 back 4;goer 1 year 4;");
        due("8 corner 0", y.by(0, 0, 0), 0);
        due("8 year 0", y.by(0, 0, 1), 0);
    }

    // Promise 9
    private static void goes() {
        OneWayPast x = told("town 2;street 0 1 years 9 sign 2;street 0 1;goer 0 year 10;may : not street = 1;");
        due("9 go", x.go(0, 0), 19);
        due("9 corner", x.goer(0, 0), 1);
        due("9 back", x.go(0, 0), 10);
        due("9 may", x.go(0, 1), -13);
        due("9 no street", x.go(0, 2), -11);
        due("9 no goer", x.go(1, 0), -11);
        due("9 put", x.put(0, 0, 11), 10);
        due("9 year", x.go(0, 0), -14);
        due("9 sign", x.sign(0, 3), 2);
        due("9 sign", x.go(0, 0), -12);
        due("9 refused calls aren't undone", x.count(6), 4);
    }

    // Promise 10
    private static void signs() {
        OneWayPast x = told("town 2;street 0 1;");
        due("10 sign", x.sign(0, 3), 0);
        due("10 sign", x.sign(0, 1), 3);
        due("10 the same", x.sign(0, 1), 1);
        due("10 each can be undone", x.count(6), 3);
        due("10 no sign", x.sign(0, 4), -11);
        due("10 no sign", x.sign(0, -1), -11);
        due("10 no street", x.sign(1, 0), -11);
        due("10 no street", x.sign(-1, 0), -11);
        due("10 it is", x.street(0, 2), 1);
        due("10 none was done", x.count(6), 3);
    }

    // Promise 11
    private static void bollardsCalls() {
        OneWayPast x = new OneWayPast();
        due("11 bollards", x.bollards(9), 0);
        due("11 bollards", x.bollards(0), 9);
        due("11 wrong", x.bollards(10), -11);
        due("11 wrong", x.bollards(-1), -11);
        due("11 undone", x.count(6), 2);
        due("11 it is", x.count(3), 0);
    }

    // Promise 12
    private static void puts() {
        OneWayPast x = told("town 3;goer 2 year 19;");
        due("12 put", x.put(0, 0, 0), 219);
        due("12 put", x.put(0, 1, 5), 0);
        due("12 no corner", x.put(0, 3, 0), -11);
        due("12 no corner", x.put(0, -1, 0), -11);
        due("12 no year", x.put(0, 0, 20), -11);
        due("12 no year", x.put(0, 0, -1), -11);
        due("12 no goer", x.put(1, 0, 0), -11);
        due("12 corner", x.goer(0, 0), 1);
        due("12 year", x.goer(0, 1), 5);
    }

    // Promise 13
    private static void undoing() {
        OneWayPast x = told("town 2;street 0 1 years 1 sign 2;goer 0 year 0;");
        due("13 none", x.undo(1), -3);
        for (int i = 1; i <= 9; i++) {
            x.bollards(i);
        }
        x.sign(0, 0);
        x.go(0, 0);
        x.put(0, 0, 9);
        due("13 ten at most", x.count(6), 10);
        due("13 too many", x.undo(11), -3);
        due("13 too few", x.undo(0), -3);
        due("13 too few", x.undo(-1), -3);
        due("13 one", x.undo(1), 9);
        due("13 where it was", x.goer(0, 0) * 100 + x.goer(0, 1), 101);
        due("13 two", x.undo(2), 7);
        due("13 the sign", x.street(0, 2), 2);
        due("13 where it was", x.goer(0, 0) * 100 + x.goer(0, 1), 0);
        due("13 more than can be", x.undo(8), -3);
        x.bollards(0);
        due("13 all", x.undo(8), 0);
        due("13 the eldest are forgotten", x.count(3), 2);
        due("13 no more", x.undo(1), -3);
        tray(x, 0, 1, 0, 209, 103);
        due("13 perform", x.perform(0), 3);
        due("13 as a whole", x.undo(1), 0);
        due("13 sign", x.street(0, 2), 2);
        due("13 bollards", x.count(3), 2);
        due("13 goer", x.goer(0, 1), 0);
    }

    // Promise 14
    private static void judging() {
        OneWayPast x = told("town 4;street 0 1 years 3;goer 0 year 5;goer 3 year 2;");
        due("14 missing", x.judge(0, 0), -6);
        due("14 what ahead of missing", x.judge(0, 4), -2);
        tray(x, 0, 1, 0, 102, 205, 2219, 0);
        due("14 all can be", x.judge(0, 0), -1);
        due("14 why", x.judge(0, 1), 0);
        due("14 years", x.judge(0, 2), 5 + 19);
        due("14 corners", x.judge(0, 3), 0b0101);
        due("14 nothing is done", x.goer(0, 1) + x.count(6) + x.count(3) + x.street(0, 2), 5);
        due("14 what", x.judge(0, -1), -2);
        due("14 tray", x.judge(4, 0), -2);
        due("14 tray", x.judge(-1, 0), -2);
        tray(x, 1, 2);
        due("14 no deeds", x.judge(1, 0), -1);
        due("14 no deeds", x.judge(1, 2), 7);
        long[] none = {-1, 10 + 1, 99, 110, 104, 199, 210, 999, 1400, 1020, 3000, 4000, Long.MAX_VALUE, Long.MIN_VALUE, 1L << 32};
        int[] why = {1, 1, 1, 1, 1, 1, 1, 1, 1, 1, 1, 1, 1, 1, 1};
        for (int i = 0; i < none.length; i++) {
            tray(x, 2, 3, 1119, none[i], 1000);
            due("14 place of " + none[i], x.judge(2, 0), 1);
            due("14 why " + none[i], x.judge(2, 1), why[i]);
            due("14 years till there", x.judge(2, 2), 21);
            due("14 corners till there", x.judge(2, 3), 0b1010);
        }
        tray(x, 2, 2, 10);
        due("14 not at an end", x.judge(2, 1), 2);
        tray(x, 2, 2, 1017, 0);
        due("14 no year", x.judge(2, 1), 4);
        tray(x, 2, 2, 209, 200, 103, 101, 1000, 2319);
        due("14 edges", x.judge(2, 0), -1);
    }

    // Promise 15
    private static void performing() {
        OneWayPast x = told("town 4;street 0 1 years 3;goer 0 year 5;goer 3 year 2;");
        due("15 missing", x.perform(1), -6);
        due("15 tray", x.perform(4), -2);
        due("15 tray", x.perform(-1), -2);
        tray(x, 1, 2, 205, 0, 0, 206);
        due("15 till one can't be", x.perform(1), 2);
        due("15 bollards", x.count(3), 5);
        due("15 year", x.goer(0, 1), 8);
        due("15 one call", x.count(6), 1);
        tray(x, 1, 2, 210, 0);
        due("15 none", x.perform(1), 0);
        due("15 none to undo", x.count(6), 1);
        tray(x, 1, 2);
        due("15 none told", x.perform(1), 0);
        due("15 none to undo", x.count(6), 1);
        tray(x, 0, 0, 100);
        due("15 bytes", x.perform(0), 1);
        due("15 cut", x.write(0, 0, 209), 209 - 256);
        due("15 a byte can't tell that", x.perform(0), 0);
    }

    // Promise 16
    private static void days() {
        OneWayPast x = told(RING_TOWN);
        due("16 times", x.day(1, 0), -3);
        due("16 times", x.day(1, 41), -3);
        due("16 times", x.day(1, -1), -3);
        for (int seed : new int[] {0, 1, -1, 77, 123456789, Integer.MIN_VALUE, Integer.MAX_VALUE}) {
            OneWayPast y = told(RING_TOWN);
            OneWayPast z = told(RING_TOWN);
            int done = x.image(0);
            int drawn = seed;
            for (int i = 0; i < 40; i++) {
                int kind = (drawn = 1103515245 * drawn + 12345) >>> 16;
                int first = (drawn = 1103515245 * drawn + 12345) >>> 16;
                int answer;
                if (kind % 6 == 5) {
                    answer = y.bollards(first % 10);
                } else {
                    int second = (drawn = 1103515245 * drawn + 12345) >>> 16;
                    answer = kind % 6 == 4 ? y.sign(first % 8, second % 4) : y.go(first % 3, second % 8);
                }
                done += answer >= 0 ? 1 : 0;
            }
            due("16 day " + seed, z.day(seed, 40), done);
            due("16 years", z.count(5), y.count(5));
            due("16 bollards", z.count(3), y.count(3));
            due("16 shut", z.count(4), y.count(4));
            due("16 one call", z.count(6), 1);
            due("16 undone", z.undo(1), 0);
            due("16 as it was", z.count(5), 15);
        }
        OneWayPast none = new OneWayPast();
        int calls = 0;
        for (int seed = 0; seed < 20; seed++) {
            calls += none.day(seed * 7919, 1);
        }
        due("16 those that did none aren't undone", none.count(6), Math.min(calls, 10));
    }

    // Promise 17
    private static void coming() {
        OneWayPast x = told(RING_TOWN);
        due("17 any year", x.soonest(0, 3, -1), 3);
        due("17 that year", x.soonest(0, 3, 11), 3);
        due("17 another", x.soonest(0, 3, 10), -1);
        due("17 there", x.soonest(0, 0, 5), 0);
        due("17 goer", x.soonest(2, 0, 0), -2);
        due("17 corner", x.soonest(0, 4, 0), -2);
        due("17 corner", x.soonest(0, -1, 0), -2);
        due("17 year", x.soonest(0, 0, 20), -3);
        due("17 year", x.soonest(0, 0, -2), -3);
        due("17 -2 ahead of -3", x.soonest(0, 9, -2), -2);
        x.bollards(3);
        due("17 the law", x.soonest(0, 3, -1), -1);
        OneWayPast y = told("town 2;street 0 1 years 1 sign 2;street 1 0 back 1;goer 0 year 0;shifts:1;");
        due("17 there and back through years", y.soonest(0, 1, 19), 19);
        due("17 never at odds", y.soonest(0, 1, 18), -1);
        due("17 the corner it is at, another year", y.soonest(0, 0, 4), 4);
    }

    // Promise 18
    private static void ways() {
        OneWayPast x = told("town 4;street 2 3;street 1 3;street 0 2;street 0 1;street 0 1 years 1;goer 0 year 0;");
        due("18 first of like ones", x.way(0, 3, -1, 0), 2);
        due("18 second", x.way(0, 3, -1, 1), 0);
        due("18 no third", x.way(0, 3, -1, 2), -1);
        due("18 far", x.way(0, 3, -1, Integer.MAX_VALUE), -1);
        due("18 in a year", x.way(0, 3, 1, 0), 4);
        due("18 in a year", x.way(0, 3, 1, 1), 1);
        due("18 can't be", x.way(0, 3, 2, 0), -1);
        due("18 there", x.way(0, 0, -1, 0), -1);
        due("18 i", x.way(0, 3, -1, -1), -3);
        due("18 i where it can't be", x.way(0, 3, 2, -1), -3);
        due("18 year", x.way(0, 3, 20, 0), -3);
        due("18 goer", x.way(1, 3, 20, -1), -2);
        due("18 corner", x.way(0, 4, 0, 0), -2);
        due("18 to corner 0, year 0", told("town 2;street 1 0 back 4;goer 1 year 4;").way(0, 0, 0, 0), 0);
        due("18 on from there", told("town 3;street 0 2;street 1 0 back 4;goer 1 year 4;").way(0, 2, 0, 0), 1);
        OneWayPast y = told(ALL_SPOTS);
        due("17 the farthest", y.soonest(0, 5, 19), 119);
        for (int i = 0; i < 119; i++) {
            due("18 the farthest " + i, y.way(0, 5, 19, i), i % 6 + 1);
        }
        due("18 behind it", y.way(0, 5, 19, 119), -1);
        due("25 the longest ring", y.ring(0), 120);
        due("27 it is no by-law", y.bylaw(0, 0), 1);
        due("27 nor is it with street 0 against", y.bylaw(0, 1), 2);
        y.numbers(0, 0, 40);
        due("40 as far as it has places", y.lists(0, 0, 5, 19), 40);
        due("20 each year", y.when(0, 3), (1 << 20) - 1);
        y.sign(0, 3);
        due("25 no ring", y.ring(0), -1);
        due("27 as now", y.bylaw(0, 0), 0);
    }

    // Promise 19
    private static void rows() {
        OneWayPast x = told("town 2;" + "street 0 1 sign 2;".repeat(8) + "goer 0 year 0;");
        long ways = 1;
        for (int n = 0; n <= 12; n++) {
            due("19 rows " + n, x.rows(0, n % 2, -1, n), ways);
            due("19 rows in year 0 " + n, x.rows(0, n % 2, 0, n), ways);
            due("19 rows in year 1 " + n, x.rows(0, n % 2, 1, n), 0);
            due("19 the other corner " + n, x.rows(0, 1 - n % 2, -1, n), 0);
            ways *= 8;
        }
        due("19 n", x.rows(0, 0, -1, 13), -3);
        due("19 n", x.rows(0, 0, -1, -1), -3);
        due("19 year", x.rows(0, 0, -2, 0), -3);
        due("19 goer", x.rows(1, 0, -2, 0), -2);
        due("19 corner", x.rows(0, 2, 0, 0), -2);
    }

    // Promise 20
    private static void whens() {
        OneWayPast x = told("town 3;street 0 1 years 4 sign 2;street 1 0 years 1;goer 0 year 2;");
        // To 1 it is 4 more; back to 0 4 less or 1 more: 2, 7, 12, 17 at 0; 6, 11, 16 at 1, 21 is none.
        due("20 at 0", x.when(0, 0), 1 << 2 | 1 << 7 | 1 << 12 | 1 << 17);
        due("20 at 1", x.when(0, 1), 1 << 6 | 1 << 11 | 1 << 16);
        due("20 never", x.when(0, 2), 0);
        due("20 corner", x.when(0, 3), -2);
        due("20 goer", x.when(1, 0), -2);
        due("20 goer", x.when(-1, 0), -2);
    }

    // Promise 21
    private static void bounds() {
        OneWayPast x = told("town 2;street 0 1 years 4 sign 2;street 1 0 years 1;goer 0 year 2;goer 1 year 9;");
        due("21 earliest", x.bound(0, 0), 2);
        due("21 latest", x.bound(0, 1), 17);
        // 9 at 1: 5 or 10 at 0, 9 or 14 at 1, ... 0 is at 5 less 4 + 4: never below 5.
        due("21 earliest", x.bound(1, 0), 5);
        due("21 latest", x.bound(1, 1), 19);
        due("21 what", x.bound(0, 2), -2);
        due("21 what", x.bound(0, -1), -2);
        due("21 goer", x.bound(2, 0), -2);
        due("21 goes nowhere", told("town 1;goer 0 year 6;").bound(0, 1), 6);
    }

    // Promise 22
    private static void reaches() {
        OneWayPast x = told("town 5;street 0 1;street 2 1 sign 1;street 3 2;street 4 0 sign 3;goer 0 year 0;goer 3 year 0;");
        due("22 reach", x.reach(0), 0b00111);
        due("22 reach", x.reach(1), 0b01100);
        due("22 goer", x.reach(2), -2);
        due("22 goer", x.reach(-1), -2);
    }

    // Promises 23 and 24
    private static void meetings() {
        OneWayPast x = told("town 3;street 0 1 years 1;street 2 1 years 1;street 0 2;street 2 0;goer 0 year 3;goer 2 year 3;");
        // One going of either: both at 2 or both at 0 in year 3.
        due("23 meet", x.meet(0, 1), 1);
        due("24 least corner", x.meetAt(0, 1, 0), 0);
        due("24 year", x.meetAt(0, 1, 1), 3);
        x.sign(3, 3);
        due("24 the other corner", x.meetAt(1, 0, 0), 2);
        x.sign(2, 3);
        due("23 at 1 then", x.meet(1, 0), 2);
        due("24 at 1 then", x.meetAt(1, 0, 0), 1);
        due("24 year", x.meetAt(1, 0, 1), 4);
        x.put(1, 2, 4);
        due("23 never", x.meet(0, 1), -1);
        due("24 never", x.meetAt(0, 1, 0), -1);
        due("24 what", x.meetAt(0, 1, 2), -2);
        due("24 what", x.meetAt(0, 1, -1), -2);
        due("24 both one", x.meetAt(0, 0, 0), -2);
        due("23 both one", x.meet(1, 1), -2);
        due("23 goer", x.meet(0, 2), -2);
        due("23 goer", x.meet(-1, 0), -2);
        OneWayPast y = told("town 2;street 0 1 sign 2;goer 0 year 3;goer 0 year 3;goer 1 year 3;may : goer = 0;");
        due("23 met already", y.meet(0, 1), 0);
        due("24 met already", y.meetAt(0, 1, 0), 0);
        due("23 each by its own law", y.meet(2, 0), 1);
        due("24 where the one stays", y.meetAt(2, 0, 0), 1);
        due("23 neither may", y.meet(1, 2), -1);
        OneWayPast z = told("town 2;street 0 1 years 1;street 0 1 years 2;street 0 1;goer 0 year 3;goer 0 year 3;"
                + "may : goer = 0 or not street = 2;");
        z.put(1, 0, 2);
        due("24 the least year", z.meetAt(0, 1, 1), 3);
    }

    // Promise 25
    private static void rings() {
        due("25 there and back", told("town 2;street 0 1 years 2 sign 2;goer 0 year 0;").ring(0), 2);
        due("25 another year each time", told("town 2;street 0 1 years 2;street 1 0;goer 0 year 0;").ring(0), -1);
        due("25 round", told("town 3;street 0 1 years 2;street 1 2 years 1;street 2 0 back 3;goer 0 year 0;").ring(0), 3);
        due("25 years end it", told("town 3;street 0 1 years 2;street 1 2 years 1;street 2 0 back 3;goer 0 year 17;").ring(0), -1);
        due("25 far from where it is", told("town 4;street 0 1;street 1 2;street 2 3;street 3 1;goer 0 year 0;").ring(0), 3);
        due("25 not where it can't come", told("town 4;street 1 0;street 1 2 sign 2;goer 0 year 0;").ring(0), -1);
        due("25 long", told("town 6;street 0 1 years 9;street 1 2 years 9;street 2 3 back 9;street 3 4 back 3;street 4 5 back 3;"
                + "street 5 0 back 3;goer 0 year 1;").ring(0), 6);
        OneWayPast x = told("town 2;street 0 1 sign 2;goer 0 year 0;");
        due("25 goer", x.ring(1), -2);
        due("25 goer", x.ring(-1), -2);
    }

    // Promises 26 and 27
    private static void bylaws() {
        OneWayPast x = told(RING_TOWN);
        due("26 laws", x.laws(0), 14);
        due("27 how many", x.bylaw(0, 0), 1);
        due("27 which", x.bylaw(0, 1), 2);
        x.sign(1, 3);
        due("26 a shut one stays so", x.laws(0), 8);
        due("27 as now", x.bylaw(0, 0), 0);
        due("27 as now", x.bylaw(0, 1), 0);
        x.sign(0, 1);
        due("27 as now", x.bylaw(0, 1), 1);
        due("27 what", x.bylaw(0, 2), -2);
        due("27 what", x.bylaw(0, -1), -2);
        due("27 goer", x.bylaw(2, 0), -2);
        due("26 goer", x.laws(2), -2);
        OneWayPast y = told("town 2;goer 0 year 0;");
        due("26 no streets", y.laws(0), 1);
        due("27 no streets", y.bylaw(0, 0), 0);
        due("27 no streets", y.bylaw(0, 1), 0);
        // Of the eight all but the two by which one goes round; two signs are other ones than now.
        OneWayPast z = told("town 3;street 0 1 sign 2;street 1 2 sign 2;street 2 0;goer 0 year 0;");
        due("26 round", z.laws(0), 6);
        due("27 the least by bits", z.bylaw(0, 1), 1);
        due("27 two", z.bylaw(0, 0), 2);
        // Every law of two streets goes round in year 0 by the third and fourth: both against or along.
        OneWayPast w = told("town 2;street 0 1;street 0 1;goer 0 year 0;may : 1 = 1;shifts : 0;");
        due("26 two ways to go round", w.laws(0), 2);
        due("27 already", w.bylaw(0, 0), 0);
        OneWayPast v = told("town 2;" + "street 0 1 sign 2;".repeat(8) + "goer 0 year 0;");
        due("26 all one way", v.laws(0), 2);
        due("27 all eight", v.bylaw(0, 0), 8);
        due("27 along", v.bylaw(0, 1), 0);
        v.sign(7, 1);
        due("27 against", v.bylaw(0, 1), 255);
        due("27 seven", v.bylaw(0, 0), 7);
    }

    // Promise 28
    private static void shutting() {
        OneWayPast x = told("town 4;street 0 1;street 0 2;street 1 3;street 2 3;street 0 3 sign 3;goer 0 year 0;");
        due("28 how many", x.shut(0, 3, 0), 2);
        due("28 the least set", x.shut(0, 3, 1), 0b00011);
        due("28 one", x.shut(0, 1, 1), 0b00001);
        due("28 it is there", x.shut(0, 0, 0), -1);
        due("28 it is there", x.shut(0, 0, 1), -1);
        x.sign(0, 3);
        due("28 one is left", x.shut(0, 3, 1), 0b00010);
        due("28 it can't anyhow", x.shut(0, 1, 0), 0);
        due("28 it can't anyhow", x.shut(0, 1, 1), 0);
        due("28 what", x.shut(0, 1, 2), -2);
        due("28 what where it is", x.shut(0, 0, -1), -2);
        due("28 corner", x.shut(0, 4, 0), -2);
        due("28 goer", x.shut(1, 0, 0), -2);
        OneWayPast y = told("town 2;" + "street 0 1;".repeat(8) + "goer 0 year 0;");
        due("28 all", y.shut(0, 1, 1), 255);
        due("28 all", y.shut(0, 1, 0), 8);
    }

    // Promise 29
    private static void needed() {
        OneWayPast x = told("town 5;street 0 1;street 1 2;street 1 2;street 2 3;street 3 0;goer 0 year 0;");
        due("29 needed", x.needed(0, 3), 0b01001);
        due("29 needed", x.needed(0, 2), 0b00001);
        due("29 it is there", x.needed(0, 0), 0);
        due("29 it can't", x.needed(0, 4), 0);
        x.sign(1, 3);
        due("29 shut ones aren't", x.needed(0, 3), 0b01101);
        due("29 corner", x.needed(0, 5), -2);
        due("29 goer", x.needed(1, 0), -2);
    }

    // Promises 30 and 31
    private static void took() {
        OneWayPast x = told("town 3;street 0 1 years 2 sign 2;street 1 2 sign 2;street 2 0 years 2;goer 0 year 5;bollards 3;"
                + "shifts : if street = 1 then bollards else years end;");
        due("30 missing", x.from(0, 0, 5), -6);
        due("30 goer ahead of missing", x.from(0, 1, 5), -2);
        due("30 tray", x.from(4, 0, 5), -2);
        due("30 tray", x.from(-1, 0, 5), -2);
        tray(x, 0, 1);
        due("30 no numbers", x.from(0, 0, 20), -4);
        due("31 no numbers", x.bollardsBy(0, 0, 20), -4);
        tray(x, 0, 1, 0, 0, 0, 0, 0, 0, 0, 0, 0, 0, 0);
        due("30 eleven", x.from(0, 0, 5), -4);
        tray(x, 0, 1, 0, 0, 0, 0, 0, 0, 0);
        due("30 seven, both ends", x.from(0, 0, 19), 0b011);
        tray(x, 0, 1, 0, 3);
        due("30 no street", x.from(0, 0, 5), -3);
        tray(x, 0, 3, 0, -1);
        due("30 no street", x.from(0, 0, 5), -3);
        tray(x, 0, 3, 0, 1L << 32);
        due("30 no street", x.from(0, 0, 5), -3);
        tray(x, 0, 0, 0, 1);
        due("30 year", x.from(0, 0, 20), -3);
        due("30 year", x.from(0, 0, -1), -3);
        due("30 from 0", x.from(0, 0, 10), 0b001);
        due("30 not then", x.from(0, 0, 9), 0);
        due("31 bollards", x.bollardsBy(0, 0, 9), 1 << 2);
        due("31 bollards", x.bollardsBy(0, 0, 16), 1 << 9);
        due("31 none", x.bollardsBy(0, 0, 17), 0);
        due("31 year", x.bollardsBy(0, 0, 20), -3);
        due("31 goer", x.bollardsBy(0, 1, 5), -2);
        due("31 missing", x.bollardsBy(1, 0, 5), -6);
        tray(x, 0, 0, 1);
        due("30 both ends, as many bollards as now", x.from(0, 0, 8), 0b110);
        due("30 other bollards aren't tried", x.from(0, 0, 7), 0);
        due("31 other corners aren't tried", x.bollardsBy(0, 0, 8), 0);
        due("31 nothing is changed", x.count(3) + x.goer(0, 1) + x.count(6), 8);
    }

    // Promise 32
    private static void attempts() {
        OneWayPast x = told("town 3;street 0 1;street 0 2;street 0 1 years 1;street 1 0;goer 0 year 5;bollards 3;"
                + "shifts : if street = 1 then bollards else if street = 2 then years else 0 end end;"
                + "may : not street = 0 or bollards < 5;");
        tray(x, 0, 1, 2);
        // Street 0 can't tell any apart: by 5 and more it stays, in year 5 too; street 1 tells all.
        due("31 all", x.bollardsBy(0, 0, 6), 1023);
        due("32 street 1", x.attempt(0, 0, 6), 1);
        tray(x, 0, 1, 1);
        due("31 one", x.bollardsBy(0, 0, 9), 16);
        due("32 one: the first", x.attempt(0, 0, 9), 0);
        due("32 none", x.attempt(0, 0, 4), -1);
        due("32 year", x.attempt(0, 0, 20), -3);
        due("32 goer", x.attempt(0, 1, 5), -2);
        due("32 missing", x.attempt(1, 0, 5), -6);
        tray(x, 0, 1);
        due("32 no numbers", x.attempt(0, 0, 5), -4);
        // 8 and 9 are told; street 1 alone tells them apart: by 9 it would come to corner 0 in year 0.
        OneWayPast z = told("town 2;street 1 0;street 1 0;street 1 0;goer 1 year 3;"
                + "shifts : if street = 1 and bollards = 9 then 0 - 3 else 0 end;may : street < 2 or bollards > 7;");
        tray(z, 0, 1, 2);
        due("31 8 and 9", z.bollardsBy(0, 0, 3), 3 << 8);
        due("32 by the last bollard", z.attempt(0, 0, 3), 1);
        OneWayPast y = told(RING_TOWN);
        tray(y, 0, 1, 1);
        due("32 from where it is now", y.attempt(0, 1, 12), 2);
    }

    // Promises 33 and 34
    private static void forcing() {
        OneWayPast x = told(RING_TOWN);
        due("33 it is there", x.forces(0, 0), 0);
        due("34 it is there", x.best(0, 0), -1);
        due("33 one", x.forces(0, 1), 1);
        due("34 one", x.best(0, 1), 0);
        due("33 the warden shuts the one street", x.forces(0, 2), -1);
        due("34 it doesn't", x.best(0, 2), -1);
        due("33 goer", x.forces(2, 0), -2);
        due("33 corner", x.forces(0, 4), -2);
        due("34 goer", x.best(2, 0), -2);
        due("34 corner", x.best(0, -1), -2);
        // Two streets on: the warden can shut but one of them.
        OneWayPast y = told("town 4;street 0 3;street 0 1;street 1 2;street 1 2;street 3 2;goer 0 year 0;");
        due("33 two", y.forces(0, 2), 2);
        due("34 by the corner with two streets", y.best(0, 2), 1);
        y.sign(2, 3);
        due("33 shut by hand", y.forces(0, 2), -1);
        // Three: 0 to 1 by two streets, to 2 by two, to 3 by two; the warden may shut one of each.
        OneWayPast z = told("town 4;street 0 1;street 0 1;street 1 2;street 1 2;street 2 3;street 2 3;street 2 3;goer 0 year 0;");
        due("33 three", z.forces(0, 3), 3);
        due("34 three", z.best(0, 3), 0);
        z.sign(6, 3);
        due("33 three streets are needed at the end", z.forces(0, 3), -1);
        due("33 four turns are too many", told("town 5;street 0 1;street 1 2;street 2 3;street 3 4;goer 0 year 0;").forces(0, 4), -1);
        // To corner 2 only in a told year, which is a turn later each year.
        String byYear = "town 3;" + "street 0 1 sign 2;".repeat(3) + "street 1 2;".repeat(5) + "shifts : 1;may : street < 3 or year = ";
        due("33 in the third turn", told(byYear + "3;goer 1 year 1;").forces(0, 2), 3);
        due("34 in the third turn", told(byYear + "3;goer 1 year 1;").best(0, 2), 0);
        due("33 not in the fourth", told(byYear + "3;goer 0 year 0;").forces(0, 2), -1);
        due("33 by the law", told("town 2;street 0 1;goer 0 year 0;may : 1 = 2;").forces(0, 1), -1);
        due("33 years", told("town 2;street 0 1 back 1;goer 0 year 0;").forces(0, 1), -1);
        due("33 nothing is shut", z.count(4), 1 << 6);
    }

    // Promise 35
    private static void chances() {
        OneWayPast x = told(RING_TOWN);
        due("35 stays", x.chance(0, 0, 1, 0) * 10 + x.chance(0, 0, 1, 1), 34);
        due("35 none drawn", x.chance(0, 0, 0, 0) * 10 + x.chance(0, 0, 0, 1), 11);
        due("35 not there", x.chance(0, 1, 0, 0) * 10 + x.chance(0, 1, 0, 1), 1);
        due("35 n", x.chance(0, 0, 7, 0), -3);
        due("35 n", x.chance(0, 0, -1, 0), -3);
        due("35 what", x.chance(0, 0, 7, 2), -2);
        due("35 what", x.chance(0, 0, 1, -1), -2);
        due("35 corner", x.chance(0, 4, 1, 0), -2);
        due("35 goer", x.chance(2, 0, 1, 0), -2);
        OneWayPast y = told("town 2;street 0 1 sign 2;" + "street 0 1 sign 3;".repeat(7) + "goer 0 year 0;");
        // Odd many of six: (1 - (3/4)^6) / 2 = 3367 / 8192.
        due("35 six of eight", y.chance(0, 1, 6, 0), 3367);
        due("35 six of eight", y.chance(0, 1, 6, 1), 8192);
        due("35 shut ones are drawn, too", y.chance(0, 1, 1, 1), 8);
        OneWayPast z = told("town 2;goer 1 year 3;");
        due("35 no streets", z.chance(0, 1, 6, 0) * 10 + z.chance(0, 1, 6, 1), 11);
        due("35 no streets", z.chance(0, 0, 6, 0) * 10 + z.chance(0, 0, 6, 1), 1);
    }

    // Promise 36
    private static void means() {
        OneWayPast x = told("town 2;street 0 1 years 3;street 0 1 years 5;street 1 0 sign 3;goer 0 year 1;");
        // 4, 6 or 1.
        due("36 above", x.mean(0, 1, 0), 11);
        due("36 below", x.mean(0, 1, 1), 3);
        due("36 none drawn", x.mean(0, 0, 0) * 10 + x.mean(0, 0, 1), 11);
        // Then only what stayed at 0 goes on: 3 * 4, 3 * 6, and of the third 4, 6, 1: 41 / 9.
        due("36 above", x.mean(0, 2, 0), 41);
        due("36 below", x.mean(0, 2, 1), 9);
        due("36 n", x.mean(0, 7, 0), -3);
        due("36 n", x.mean(0, -1, 0), -3);
        due("36 what", x.mean(0, 7, 2), -2);
        due("36 what", x.mean(0, 1, -1), -2);
        due("36 goer", x.mean(1, 1, 0), -2);
        OneWayPast y = told("town 2;goer 1 year 0;");
        due("36 year 0", y.mean(0, 6, 0) * 10 + y.mean(0, 6, 1), 1);
    }

    // Promise 37
    private static void likeliest() {
        OneWayPast x = told("town 3;street 2 1;street 2 0 years 1;street 2 0;street 2 1;goer 2 year 1;");
        due("37 where it is", x.likeliest(0, 0), 2);
        due("37 the first of like ones", x.likeliest(0, 1), 0);
        x.sign(1, 3);
        due("37 another", x.likeliest(0, 1), 1);
        due("37 n", x.likeliest(0, 7), -3);
        due("37 n", x.likeliest(0, -1), -3);
        due("37 goer", x.likeliest(1, 7), -2);
        due("37 no streets", told("town 3;goer 1 year 1;").likeliest(0, 6), 1);
    }

    // Promises 38 and 39
    private static void trays() {
        OneWayPast x = new OneWayPast();
        due("38 tray", x.numbers(4, 0, 1), -2);
        due("38 tray", x.numbers(-1, 0, 1), -2);
        due("38 sort", x.numbers(0, 4, 41), -2);
        due("38 sort", x.numbers(0, -1, 1), -2);
        due("38 n", x.numbers(0, 0, 41), -3);
        due("39 missing still", x.write(0, 0, 1), -6);
        due("38 40", x.numbers(0, 3, 40), 0);
        due("39 last", x.write(0, 39, Long.MIN_VALUE), Long.MIN_VALUE);
        due("39 behind it", x.write(0, 40, 1), -7);
        due("39 ahead of it", x.write(0, -1, 1), -7);
        due("39 tray", x.write(4, 0, 1), -2);
        due("39 tray", x.write(-1, 0, 1), -2);
        due("38 n: the tray stays", x.numbers(0, 0, -1), -3);
        due("39 it stays", x.write(0, 39, 1L << 40), 1L << 40);
        due("38 in place of it", x.numbers(0, 0, 0), 0);
        due("39 none in it", x.write(0, 0, 1), -7);
        long v = 0x123456789abcdef0L;
        long[] want = {(byte) v, (short) v, (int) v, v};
        for (int sort = 0; sort < 4; sort++) {
            due("38 sort " + sort, x.numbers(3, sort, 1), 0);
            due("39 cut " + sort, x.write(3, 0, v), want[sort]);
            due("39 less one " + sort, x.write(3, 0, -1), -1);
        }
        OneWayPast y = told("town 2;street 0 1 sign 2;goer 0 year 3;");
        tray(y, 0, 1, 1019, 209);
        due("38 all 0 then", y.numbers(0, 1, 3), 0);
        due("38 all 0 then", y.perform(0), 3);
        due("38 all 0 then", y.goer(0, 0), 1);
        due("38 no bollards then", y.count(3), 0);
    }

    // Promise 40
    private static void listing() {
        OneWayPast x = told(RING_TOWN);
        due("40 missing", x.lists(0, 0, 3, 20), -6);
        due("40 tray", x.lists(4, 0, 3, -1), -2);
        due("40 goer", x.lists(0, 2, 3, -1), -2);
        due("40 corner", x.lists(0, 0, 4, -1), -2);
        x.numbers(0, 0, 4);
        x.write(0, 3, 3);
        due("40 year", x.lists(0, 0, 3, 20), -3);
        due("40 year", x.lists(0, 0, 3, -2), -3);
        due("40 there is none", x.lists(0, 0, 3, 10), -5);
        due("40 three", x.lists(0, 0, 3, -1), 3);
        // 0, 1, 2 have come and 3 has stayed: from corner 0 round to it again, in year 5.
        due("40 they are there", x.from(0, 0, 5), 0b0001);
        x.numbers(0, 2, 2);
        due("40 as far as it has places", x.lists(0, 0, 3, 11), 2);
        due("40 they are there", x.from(0, 0, 6), 0b0001);
        due("40 it is there", x.lists(0, 0, 0, 5), 0);
        x.numbers(0, 2, 0);
        due("40 no places", x.lists(0, 0, 3, -1), 0);
    }

    // Promises 41 and 42
    private static void images() {
        OneWayPast x = told(RING_TOWN);
        due("41 i", x.image(2), -2);
        due("41 i", x.image(-1), -2);
        due("42 i", x.restore(2), -2);
        due("42 i", x.restore(-1), -2);
        due("42 none was made", x.restore(0), -5);
        x.go(0, 0);
        due("41 made", x.image(0), 0);
        due("41 can be undone still", x.count(6), 1);
        due("42 the other one wasn't", x.restore(1), -5);
        x.sign(2, 3);
        x.bollards(5);
        x.put(1, 0, 0);
        feed(x, "town 2;");
        due("42 restore", x.restore(0), 0);
        due("42 nothing can be undone", x.count(6), 0);
        due("42 the tape isn't in it", x.count(7), 20);
        due("42 goer 0", x.goer(0, 0) * 100 + x.goer(0, 1), 108);
        due("42 goer 1", x.goer(1, 0) * 100 + x.goer(1, 1), 210);
        due("42 sign", x.street(2, 2), 0);
        due("42 bollards", x.count(3), 1);
        due("41 the second", tell(new OneWayPast(), "town 1;"), 1);
        x.town(0);
        due("42 another town", tell(x, "town 6;street 4 5;goer 4 year 1;shifts : 7;"), 4);
        due("42 by its law", x.soonest(0, 5, 8), 1);
        due("41 made", x.image(1), 0);
        due("42 back", x.restore(0), 0);
        due("42 corners", x.count(0), 4);
        due("42 lines", x.count(8), 9);
        due("42 by the laws of then", x.soonest(0, 3, 11), 2);
        due("42 may", x.bollards(3), 1);
        due("42 may", x.soonest(0, 3, -1), -1);
        due("42 and the other", x.restore(1), 0);
        due("42 by its law", x.by(0, 0, 1), 8);
        due("42 lines", x.count(8), 4);
        due("42 the fault isn't in it", x.fault(0), 0);
        OneWayPast y = new OneWayPast();
        due("41 of a new object", y.image(1), 0);
        tell(y, RING_TOWN);
        due("42 as new", y.restore(1), 0);
        due("42 as new", y.count(0) * 10 + y.count(8), 10);
    }

    // Promise 43
    private static void counts() {
        OneWayPast x = told(RING_TOWN);
        x.sign(1, 3);
        x.sign(3, 3);
        x.feed(0, 0, 0, 0, 0);
        int[] want = {4, 4, 2, 1, 0b1010, 15, 2, 20, 9};
        for (int i = 0; i < want.length; i++) {
            due("43 count " + i, x.count(i), want[i]);
        }
        due("43 others", x.count(9), -1);
        due("43 others", x.count(-1), -1);
    }
}
