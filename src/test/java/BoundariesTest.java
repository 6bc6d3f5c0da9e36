import java.nio.charset.StandardCharsets;
import java.util.ArrayList;
import java.util.List;
import java.util.function.ToLongFunction;

/**
 * Each sentence of the document that names a boundary case, told in its own words, with checks of its own:
 * what is too small or too large, empty or full, what comes round again, what is refused.
 */
public final class BoundariesTest {
    private static final int MIN = Integer.MIN_VALUE;
    private static final int MAX = Integer.MAX_VALUE;
    private static final int[] NO_WHAT_OF_TWO = {2, -1, 3, MIN, MAX};

    /** As much as a town can have: six corners, eight streets, three goers, nine bollards. */
    private static final String FULL =
            "town 6;street 0 1 sign 2;street 1 2 sign 2;street 2 3 sign 2;street 3 4 sign 2;street 4 5 sign 2;"
            + "street 5 0 sign 2;street 0 3 sign 2;street 1 4 sign 2;goer 0 year 0;goer 5 year 19;goer 4 year 7;bollards 9;";

    private static int wrong = 0;
    private static int checks = 0;
    private static int sentences = 0;
    private static int checksOfSentence = 1;
    private static String sentence = "";

    /** From here on, till the next one, this is the sentence that is tested. */
    private static void says(String words) {
        if (checksOfSentence == 0) {
            fail("no check at all");
        }
        sentence = words;
        sentences++;
        checksOfSentence = 0;
    }

    private static void fail(String what) {
        wrong++;
        System.out.println("<" + sentence + "> " + what);
    }

    private static void due(String call, long got, long want) {
        checks++;
        checksOfSentence++;
        if (got != want) {
            fail(call + " answered " + got + ", due is " + want);
        }
    }

    private static void alike(String call, String got, String want) {
        checks++;
        checksOfSentence++;
        if (!got.equals(want)) {
            fail(call + ": " + got + ", due is " + want);
        }
    }

    private static void feed(OneWayPast x, String text) {
        byte[] bytes = text.getBytes(StandardCharsets.ISO_8859_1);
        for (int from = 0; from < bytes.length; from += 20) {
            int[] five = new int[5];
            for (int i = 0; i < 20; i++) {
                int b = from + i < bytes.length ? bytes[from + i] & 255 : ' ';
                five[i / 4] = five[i / 4] << 8 | b;
            }
            x.feed(five[0], five[1], five[2], five[3], five[4]);
        }
    }

    private static int tell(OneWayPast x, String text) {
        feed(x, text);
        return x.town(text.length());
    }

    private static OneWayPast told(String text) {
        OneWayPast x = new OneWayPast();
        int answer = tell(x, text);
        if (answer < 0) {
            fail("a text is refused by " + answer + " at " + x.fault(1) + ": " + text);
        }
        return x;
    }

    /** The text is read, and has so many lines. */
    private static void linesDue(String text, int lines) {
        due("town of <" + text + ">", tell(new OneWayPast(), text), lines);
    }

    private static void faultDue(String text, int kind, int place) {
        OneWayPast x = new OneWayPast();
        due("town of <" + text + ">", tell(x, text), -30 - kind);
        due("fault(0) of <" + text + ">", x.fault(0), kind);
        due("fault(1) of <" + text + ">", x.fault(1), place);
    }

    private static OneWayPast tray(OneWayPast x, int tray, int sort, long... values) {
        if (x.numbers(tray, sort, values.length) != 0) {
            fail("a tray of " + values.length + " is refused");
        }
        for (int i = 0; i < values.length; i++) {
            if (x.write(tray, i, values[i]) != values[i]) {
                fail("a tray doesn't take " + values[i]);
            }
        }
        return x;
    }

    private static int at(OneWayPast x, int g) {
        return 100 * x.goer(g, 0) + x.goer(g, 1);
    }

    /** All that calls can see without changing anything, but for images and what can be undone. */
    private static String view(OneWayPast x) {
        StringBuilder all = new StringBuilder("counts");
        for (int i = 0; i < 9; i++) {
            all.append(' ').append(x.count(i));
        }
        all.append(" fault ").append(x.fault(0)).append(' ').append(x.fault(1)).append(" streets");
        for (int s = 0; s < 8; s++) {
            for (int what = 0; what < 4; what++) {
                all.append(' ').append(x.street(s, what));
            }
        }
        all.append(" goers");
        for (int g = 0; g < 3; g++) {
            for (int what = 0; what < 3; what++) {
                all.append(' ').append(x.goer(g, what));
            }
        }
        all.append(" trays");
        for (int tray = 0; tray < 4; tray++) {
            for (int what = 0; what < 4; what++) {
                all.append(' ').append(x.judge(tray, what));
            }
            all.append(' ').append(x.from(tray, 0, 5));
        }
        return all.toString();
    }

    public static void main(String[] args) {
        texts();
        withoutText();
        sums();
        truths();
        withinOneAnother();
        boundsOfLines();
        partsOfStreets();
        howManyLines();
        tokens();
        faults();
        goings();
        laws();
        keptNumbers();
        choices();
        deedsInTrays();
        undoneCalls();
        termsOfSearches();
        termsOfMeetings();
        termsOfShutting();
        termsOfChances();
        termsOfDays();
        drawnDeeds();
        codes();
        manyCalls();
        refusals();
        severalRefusals();
        theTown();
        feeding();
        reading();
        readingRefused();
        streetsAndGoers();
        byGoing();
        deeds();
        signsBollardsPuts();
        undoing();
        judging();
        performing();
        days();
        coming();
        ways();
        rows();
        whens();
        meetingsAndRings();
        rings();
        bylaws();
        shuttingAndTook();
        rowsTaken();
        attempts();
        turnsAndChances();
        chances();
        means();
        traysAndImages();
        lists();
        images();
        counts();
        says("the end");
        checksOfSentence = 1;
        System.out.println(sentences - 1 + " sentences, " + checks + " checks, " + wrong + " wrong");
        if (wrong != 0) {
            System.exit(1);
        }
    }

    // ---- Terms: the text

    private static void texts() {
        says("THE TOWN is a TEXT of at most 900 bytes");
        // 7 and 81 times 11 bytes, and two blanks.
        String full = "town 3;" + "bollards 9;".repeat(80) + "bollards 4;  ";
        OneWayPast x = new OneWayPast();
        due("as long as it can be", full.length(), 900);
        due("900 bytes", tell(x, full), 82);
        due("its corners", x.count(0), 3);
        due("its last bollards", x.count(3), 4);
        faultDue("town 3;" + "bollards 9;".repeat(80) + "bollards 4; a", 2, 899);
        faultDue("town 3;" + "bollards 9;".repeat(80) + "bollards 4   ", 2, 900);
        // 64 bytes, 417 times 2, and two more.
        String law = "town 2;street 0 1;goer 0 year 0;bollards 0;bollards 0;shifts:1  " + "+1".repeat(18) + "+0".repeat(399) + " ;";
        due("as long as it can be", law.length(), 900);
        due("a law to the last byte", tell(x, law), 6);
        due("it holds", x.by(0, 0, 1), 19);
        String truth = "town 2;street 0 1;goer 0 year 0;may:" + "1=2 or ".repeat(123) + "1=1";
        due("as long as it can be", truth.length() + 1, 901);
        due("a truth to the last byte", tell(x, truth.replaceFirst(" or ", "or ") + ";"), 4);
        due("it holds by its last unit", x.why(0, 0), 0);
    }

    private static void withoutText() {
        says("(without one: 1 corner, no STREETS, no GOERS, 0 BOLLARDS)");
        OneWayPast none = new OneWayPast();
        due("corners", none.count(0), 1);
        due("streets", none.count(1), 0);
        due("goers", none.count(2), 0);
        due("bollards", none.count(3), 0);

        says("town N ; { LINE ; }");
        linesDue("town 1;", 1);
        linesDue("town 1;bollards 0;", 2);
        faultDue("town 1", 2, 6);
        faultDue("town 1;bollards 0", 2, 17);
        faultDue("town 1;;", 2, 7);
        faultDue("town 1;bollards 0;;", 2, 18);

        says("street N N { PART }");
        linesDue("town 2;street 0 1;", 2);
        linesDue("town 2;street 0 1 years 1 back 1 sign 1 years 2 back 2 sign 2;", 2);
        faultDue("town 2;street;", 2, 13);
        faultDue("town 2;street 0;", 2, 15);
        faultDue("town 2;street 0 1 1;", 2, 18);
        faultDue("town 2;street 0 1 years;", 2, 23);
        faultDue("town 2;street 0 1 back;", 2, 22);
        faultDue("town 2;street 0 1 sign;", 2, 22);

        says("goer N year N | bollards N | shifts : SUM | may : TRUTH.");
        linesDue("town 1;goer 0 year 0;bollards 0;shifts:0;may:0=0;", 5);
        faultDue("town 1;goer;", 2, 11);
        faultDue("town 1;goer 0;", 2, 13);
        faultDue("town 1;goer 0 year;", 2, 18);
        faultDue("town 1;goer 0 0;", 2, 14);
        faultDue("town 1;bollards;", 2, 15);
        faultDue("town 1;shifts 1;", 2, 14);
        faultDue("town 1;shifts:;", 2, 14);
        faultDue("town 1;may 1=1;", 2, 11);
        faultDue("town 1;may:;", 2, 11);
        faultDue("town 1;shifts:1=1;", 2, 15);
        faultDue("town 1;may:1;", 2, 12);
    }

    private static void sums() {
        says("SUM: TERM { + TERM | - TERM }; TERM: ATOM { * ATOM }");
        due("* ahead of +", shift("1+2*3"), 7);
        due("* ahead of -", shift("9-2*3"), 3);
        due("from the left", shift("9-4-3"), 2);
        due("- then +", shift("9-4+3"), 8);
        due("one atom", shift("4"), 4);
        faultDue("town 1;shifts:1+;", 2, 16);
        faultDue("town 1;shifts:1-;", 2, 16);
        faultDue("town 1;shifts:1*;", 2, 16);
        faultDue("town 1;shifts:-1;", 2, 14);
        faultDue("town 1;shifts:+1;", 2, 14);
        faultDue("town 1;shifts:*1;", 2, 14);
        faultDue("town 1;shifts:1 1;", 2, 16);
        faultDue("town 1;shifts:1+*1;", 2, 16);

        says("ATOM: N, ( SUM ), if TRUTH then SUM else SUM end, street, years, year, against, bollards, in may goer too.");
        due("( SUM )", shift("(2+3)*1"), 5);
        due("street", shift("street"), 0);
        due("years", shift("years"), -3);
        due("year", shift("year-7"), 3);
        due("against", shift("against"), 0);
        due("bollards", shift("bollards"), 4);
        due("goer", may(1, "goer=1"), 0);
        for (String word : new String[] {"town", "shifts", "may", "back", "sign", "then", "else", "end", "and", "or", "not"}) {
            faultDue("town 1;shifts:" + word + ";", 2, 14);
            faultDue("town 1;may:1=" + word + ";", 2, 13);
        }
        faultDue("town 1;shifts:();", 2, 15);
        faultDue("town 1;shifts:(1;", 2, 16);
        faultDue("town 1;shifts:1);", 2, 15);
        faultDue("town 1;shifts:(1];", 2, 16);
        faultDue("town 1;shifts:if 1=1 then 1 else 2;", 2, 34);
        faultDue("town 1;shifts:if 1=1 then 1 end;", 2, 28);
        faultDue("town 1;shifts:if 1=1 1 else 2 end;", 2, 21);
        faultDue("town 1;shifts:if 1 then 1 else 2 end;", 2, 19);
    }

    private static void truths() {
        says("TRUTH: BOTH { or BOTH }; BOTH: UNIT { and UNIT }; UNIT: not UNIT, [ TRUTH ], or SUM, one of = < >, SUM.");
        due("and ahead of or", may(0, "1=1 or 1=2 and 1=2"), 0);
        due("and ahead of or", may(0, "1=2 and 1=2 or 1=1"), 0);
        due("[ ]", may(0, "[1=1 or 1=2] and 1=2"), 3);
        due("not of one unit", may(0, "not 1=1 and 1=2"), 3);
        due("not of one unit", may(0, "not 1=1 or 1=1"), 0);
        due("not [ ]", may(0, "not [1=1 or 1=1]"), 3);
        due("not not", may(0, "not not 1=1"), 0);
        due("=", may(0, "2=2") * 100 + may(0, "2=3") * 10 + may(0, "3=2"), 33);
        due("<", may(0, "2<2") * 100 + may(0, "2<3") * 10 + may(0, "3<2"), 303);
        due(">", may(0, "2>2") * 100 + may(0, "2>3") * 10 + may(0, "3>2"), 330);
        for (String holds : new String[] {"1=1", "1<2", "2>1", "not 1=2", "[1=1]"}) {
            for (String other : new String[] {"1=1", "1<2", "2>1", "not 1>2", "[2>1]"}) {
                due(holds + " and " + other, may(0, holds + " and " + other), 0);
                due(holds + " or " + other, may(0, holds + " or " + other), 0);
                due("not " + holds + " and " + other, may(0, "not " + holds + " and " + other), 3);
                due("not " + holds + " or not " + other, may(0, "not " + holds + " or not " + other), 3);
                due("if " + holds, may(0, "if " + holds + " then 1 else 2 end=1 and " + other), 0);
            }
        }
        faultDue("town 1;may:1=1=1;", 2, 14);
        faultDue("town 1;may:[];", 2, 12);
        faultDue("town 1;may:[1=1;", 2, 15);
        faultDue("town 1;may:[1=1);", 2, 15);
        faultDue("town 1;may:1=1];", 2, 14);
        faultDue("town 1;may:(1=1);", 2, 13);
        faultDue("town 1;may:[1]=1;", 2, 13);
        faultDue("town 1;may:1=1 or;", 2, 17);
        faultDue("town 1;may:1=1 and or 1=1;", 2, 19);
        faultDue("town 1;may:1=not 1=1;", 2, 13);
        faultDue("town 1;may:not;", 2, 14);
    }

    private static void withinOneAnother() {
        says("At most six of not [ ( if within one another.");
        due("six (", shift("((((((5))))))"), 5);
        faultDue("town 1;shifts:(((((((5)))))));", 4, 20);
        due("six [", may(0, "[[[[[[1=1]]]]]]"), 0);
        faultDue("town 1;may:[[[[[[[1=1]]]]]]];", 4, 17);
        due("six not", may(0, "not not not not not not 1=1"), 0);
        faultDue("town 1;may:not not not not not not not 1=1;", 4, 35);
        String deep = "1=1";
        for (int i = 0; i < 6; i++) {
            deep = "if " + deep + " then 1 else 0 end=1";
        }
        due("six if", may(0, deep), 0);
        faultDue("town 1;may:if " + deep + " then 1 else 0 end=1;", 4, 29);
        due("six of all", may(0, "not [not [if (1)=1 then (5) else 1 end>(4)]]"), 0);
        linesDue("town 1;may:not [ not [ if ( 1 ) = 1 then 1 else (1) end = 1 ] ];", 2);
        faultDue("town 1;may:not [ not [ if ( ( 1 ) ) = 1 then 1 else 1 end = 1 ] ];", 4, 28);
        faultDue("town 1;may:not [ not [ if 1 = 1 then 1 else ((1)) end = 1 ] ];", 4, 45);
        faultDue("town 1;may:not [ not [ if not [ 1 = 1 ] then 1 else 1 end = 1 ] ];", 4, 30);
        faultDue("town 1;may:[[[[[[ 1 = if 1=1 then 1 else 1 end ]]]]]];", 4, 22);
        faultDue("town 1;may:[[[[[[ not 1 = 1 ]]]]]];", 4, 18);
        due("side by side, not within", shift("((((((1))))))+((((((1))))))*((((((3))))))"), 4);
        due("side by side, not within", may(0, "not 1=2 and not 1=2 and not 1=2 and not 1=2 and not 1=2 and not 1=2 and not 1=2"), 0);
        due("behind what is closed", may(0, "[[[[[1=1] and 1=1]]]] and not [[[[[1=2]]]]]"), 0);
    }

    private static void boundsOfLines() {
        says("town: how many CORNERS, 1 to 6, numbered from 0 on.");
        for (int n = 0; n <= 8; n++) {
            OneWayPast x = new OneWayPast();
            due("town " + n, tell(x, "town " + n + ";"), n >= 1 && n <= 6 ? 1 : -33);
            due("corners", x.count(0), n >= 1 && n <= 6 ? n : 1);
        }
        faultDue("town 0;", 3, 5);
        faultDue("town 7;", 3, 5);
        faultDue("town 999;", 3, 5);

        says("street: two CORNERS, not one: its BEGINNING, its END");
        for (int n = 1; n <= 6; n++) {
            String town = "town " + n + ";";
            for (int a = 0; a <= n; a++) {
                for (int b = 0; b <= n; b++) {
                    String text = town + "street " + a + " " + b + ";";
                    if (a < n && b < n && a != b) {
                        OneWayPast x = told(text);
                        due(text, 10 * x.street(0, 0) + x.street(0, 1), 10 * a + b);
                    } else {
                        faultDue(text, 3, a == n ? 14 : 16);
                    }
                }
            }
        }
    }

    private static void partsOfStreets() {
        says("years: 0 to 9 (0), or back: as many below 0 (later ones of both strike)");
        for (int n = 0; n <= 9; n++) {
            due("years " + n, told("town 2;street 0 1 years " + n + ";").street(0, 3), 50 + n);
            due("back " + n, told("town 2;street 0 1 back " + n + ";").street(0, 3), 50 - n);
        }
        due("none", told("town 2;street 0 1;").street(0, 3), 50);
        due("none behind one with some", told("town 2;street 0 1 years 9;street 0 1;").street(1, 3), 50);
        faultDue("town 2;street 0 1 years 10;", 3, 24);
        faultDue("town 2;street 0 1 back 10;", 3, 23);
        faultDue("town 2;street 0 1 years 999;", 3, 24);
        due("later", told("town 2;street 0 1 years 4 back 5;").street(0, 3), 45);
        due("later", told("town 2;street 0 1 back 5 years 4;").street(0, 3), 54);
        due("later", told("town 2;street 0 1 years 4 back 0;").street(0, 3), 50);
        due("later", told("town 2;street 0 1 back 4 years 0;").street(0, 3), 50);
        due("later", told("town 2;street 0 1 years 1 years 2 sign 3 years 3;").street(0, 3), 53);

        says("SIGN 0: from BEGINNING to END alone (without one), 1: from END to BEGINNING alone, 2: both ways, 3: it is SHUT (a later one strikes)");
        for (int n = 0; n <= 3; n++) {
            due("sign " + n, told("town 2;street 0 1 sign " + n + ";").street(0, 2), n);
        }
        due("without", told("town 2;street 0 1;").street(0, 2), 0);
        due("without, behind one with", told("town 2;street 0 1 sign 3;street 0 1;").street(1, 2), 0);
        faultDue("town 2;street 0 1 sign 4;", 3, 23);
        due("later", told("town 2;street 0 1 sign 3 sign 1 years 2;").street(0, 2), 1);
        due("later", told("town 2;street 0 1 sign 3 sign 0;").street(0, 2), 0);
    }

    private static void howManyLines() {
        says("numbered from 0 on, 8 at most.");
        for (int n = 0; n <= 8; n++) {
            OneWayPast x = told("town 3;" + "street 0 1;".repeat(Math.max(n - 1, 0)) + (n > 0 ? "street 1 2;" : ""));
            due("streets", x.count(1), n);
            due("the last", x.street(n - 1, 1), n > 0 ? 2 : -2);
            due("behind it", x.street(n, 1), -2);
        }
        faultDue("town 3;" + "street 0 1;".repeat(9), 4, 95);

        says("goer: a CORNER, a YEAR 0 to 19; numbered from 0 on, 3 at most.");
        for (int n = 0; n <= 3; n++) {
            OneWayPast x = told("town 6;" + "goer 0 year 0;".repeat(Math.max(n - 1, 0)) + (n > 0 ? "goer 5 year 19;" : ""));
            due("goers", x.count(2), n);
            due("the last", x.goer(n - 1, 1), n > 0 ? 19 : -2);
            due("behind it", x.goer(n, 0), -2);
        }
        faultDue("town 3;" + "goer 0 year 0;".repeat(4), 4, 49);
        faultDue("town 3;goer 3 year 0;", 3, 12);
        faultDue("town 1;goer 1 year 0;", 3, 12);
        faultDue("town 3;goer 0 year 20;", 3, 19);
        due("year 0", told("town 3;goer 2 year 0;").goer(0, 1), 0);

        says("bollards 0 to 9; later ones of bollards, shifts, may strike.");
        due("0", told("town 1;bollards 0;").count(3), 0);
        due("9", told("town 1;bollards 9;").count(3), 9);
        faultDue("town 1;bollards 10;", 3, 16);
        due("later", told("town 1;bollards 9;bollards 0;").count(3), 0);
        due("later", told("town 1;bollards 0;bollards 9;").count(3), 9);
        due("later", told("town 2;street 0 1;goer 0 year 1;shifts:1;bollards 1;shifts:2+2;").by(0, 0, 1), 5);
        due("later", told("town 2;street 0 1;goer 0 year 1;may:1=2;shifts:1;may:1=1;").why(0, 0), 0);
        due("later", told("town 2;street 0 1;goer 0 year 1;may:1=1;may:1=2;").why(0, 0), 3);
        due("one of a text ahead doesn't", told("town 2;street 0 1;goer 0 year 1;may:1=2;").town(0), -32);
        OneWayPast again = told("town 2;street 0 1;goer 0 year 1;may:1=2;shifts:7;bollards 4;");
        tell(again, "town 2;street 0 1 years 2;goer 0 year 1;");
        due("no law any more", again.by(0, 0, 1), 3);
        due("no bollards any more", again.count(3), 0);
        tell(again, "town 2;street 0 1;goer 0 year 1;shifts:7;may:1=1;");
        tell(again, "town 2;street 0 1 years 2;goer 0 year 1;");
        due("no may behind shifts any more", again.by(0, 0, 1), 3);
        tell(again, "town 2;street 0 1;goer 0 year 1;may:not 1=2;");
        tell(again, "town 2;street 0 1;goer 0 year 1;may:1=1;");
        due("nothing of a longer law any more", again.why(0, 0), 0);
        for (int years = 0; years < 5; years++) {
            tell(again, "town 2;street 0 1;goer 0 year 1;shifts:" + years + ";");
            due("the years of this one, by a search", again.soonest(0, 1, 1 + years), 1);
        }
    }

    /** What shifts tells for the one street of a town, gone by a goer in year 10 (less 100: why not). */
    private static long shift(String sum) {
        OneWayPast x = told("town 2;street 0 1 back 3 sign 2;goer 0 year 10;goer 1 year 10;bollards 4;shifts:" + sum + ";");
        int whyNot = x.why(0, 0);
        return whyNot == 0 ? x.by(0, 0, 1) - 10 : -100 - whyNot;
    }

    /** Why goer 0 or 1 (who goes against it) can't go that street. */
    private static long may(int g, String truth) {
        return told("town 2;street 0 1 back 3 sign 2;goer 0 year 10;goer 1 year 10;bollards 4;may:" + truth + ";").why(g, 0);
    }

    // ---- Terms: tokens, faults

    private static void tokens() {
        says("TOKENS, as long as they go on, between them blanks (10, 32)");
        linesDue("town2;street0 1years3sign2;goer0year0;bollards0;shifts:0;may:0=0;", 6);
        linesDue(" \n town \n\n 2 ; \n ", 1);
        linesDue("\n\n\ntown\n2\n;", 1);
        faultDue("towntwo 2;", 2, 0);
        faultDue("town 1;goer 0 years 1;", 2, 14);
        faultDue("town 2;street 01;", 2, 16);
        faultDue("town 2;street 0 1 ye ars 1;", 2, 18);
        for (int blank = 0; blank <= 32; blank++) {
            if (blank == 10 || blank == 32) {
                linesDue("town" + (char) blank + "2;", 1);
            } else {
                faultDue("town" + (char) blank + "2;", 1, 4);
            }
        }

        says("words (small letters), N (1 to 3 digits), the signs ; : + - * ( ) [ ] = < >.");
        for (int b = 0; b < 256; b++) {
            String text = "town 1;" + (char) b;
            if (b == 10 || b == 32) {
                linesDue(text, 1);
            } else {
                boolean token = b >= 'a' && b <= 'z' || b >= '0' && b <= '9' || ";:+-*()[]=<>".indexOf(b) >= 0;
                faultDue(text, token ? 2 : 1, 7);
            }
        }
        due("1 digit", shift("(7)"), 7);
        due("2 digits", shift("07"), 7);
        due("3 digits", shift("007"), 7);
        due("999", may(0, "999-998=1"), 0);
        linesDue("town 006;goer 005 year 019;bollards 009;", 3);

        says("1 no TOKEN begins so (4 digits and more: at their first).");
        faultDue("town 0001;", 1, 5);
        faultDue("town 1;shifts:12345678901234567890;", 1, 14);
        faultDue("town 1;shifts:4294967297;", 1, 14);
        faultDue("town 1;shifts:1+1000;", 1, 16);
        faultDue("town 1;Bollards 1;", 1, 7);
        faultDue("town 1;bOllards 1;", 2, 7);
        faultDue("town 1;bollards 1,", 1, 17);
        faultDue("_", 1, 0);
        faultDue("9999", 1, 0);
    }

    private static void faults() {
        says("FAULTS, the first along the text, of one TOKEN the least kind");
        faultDue("town 7 !", 3, 5);
        faultDue("town 1;bollards 10 0000;", 3, 16);
        faultDue("town 1;street street !", 2, 14);
        faultDue("town 2;" + "street 0 1;".repeat(8) + "street ! 9;", 4, 95);
        faultDue("town 2;street 1 1 sign 1000;", 3, 16);
        faultDue("town 1;bollards 1000;", 1, 16);
        faultDue("town 1 7;", 2, 7);
        faultDue("town 1 7777;", 1, 7);
        faultDue("town 2;" + "street 0 1;".repeat(7) + "street 0 1 street 0 1;", 2, 95);
        faultDue("town 2;" + "goer 0 year 0;".repeat(2) + "goer 0 year 0 goer 0 year 0;", 2, 49);
        faultDue("town 1;shifts:((((((not 1))))));", 2, 20);
        faultDue("town 1;shifts:(((((([1]))))));", 2, 20);
        faultDue("town 1;may:[[[[[[1 = [1]]]]]]];", 2, 21);
        faultDue("town 1;may:[[[[[[1 ( = 1]]]]]];", 2, 19);
        faultDue("town 1;may:[[[[[[1 if = 1]]]]]];", 2, 19);

        says("2 it can't stand there (the end: the text's length; town must be told first, and once; goer in shifts).");
        faultDue("", 2, 0);
        faultDue(" ", 2, 1);
        faultDue("town", 2, 4);
        faultDue("town   ", 2, 7);
        faultDue("town 1 \n", 2, 8);
        faultDue("town 1;may:1=1  ", 2, 16);
        OneWayPast cut = new OneWayPast();
        feed(cut, "town 1;bollards 5;");
        due("the text's length, not the tape's", cut.town(9), -32);
        due("a word cut short", cut.fault(1), 7);
        feed(cut, "town 1;bollards 5;");
        due("the text's length, not the tape's", cut.town(15), -32);
        due("at its end", cut.fault(1), 15);
        feed(cut, "town 1;bollards 5;");
        due("the text's length, not the tape's", cut.town(3), -32);
        due("a word cut short", cut.fault(1), 0);
        feed(cut, "town 16;");
        due("a number cut short", cut.town(6), -32);
        due("at its end", cut.fault(1), 6);
        feed(cut, "town 1;bollards 5000;");
        due("a number cut short", cut.town(17), -32);
        due("at its end", cut.fault(1), 17);
        feed(cut, "town 1;bollards 5000;");
        due("a number cut to three digits", cut.town(19), -33);
        String blanks = " ".repeat(893) + "town 1;";
        due("to the last byte", tell(cut, blanks), 1);
        due("a digit as the last byte", tell(cut, blanks.substring(1, 899) + " 1"), -32);
        due("its place", cut.fault(1), 899);
        due("a letter as the last byte", tell(cut, blanks.substring(0, 899) + "a"), -32);
        due("its place", cut.fault(1), 899);
        faultDue("goer 0 year 0;town 1;", 2, 0);
        faultDue("bollards 0;", 2, 0);
        faultDue("1", 2, 0);
        faultDue(";", 2, 0);
        faultDue("town 1;town 1;", 2, 7);
        faultDue("town 1;bollards 0;town 1;", 2, 18);
        faultDue("town 1;shifts:goer;", 2, 14);
        faultDue("town 1;shifts:1+(2*goer);", 2, 19);
        faultDue("town 1;shifts:if goer=0 then 1 else 2 end;", 2, 17);
        faultDue("town 1;may:goer=0;shifts:goer;", 2, 25);
        linesDue("town 1;shifts:1;may:if goer=0 then goer else 1 end=goer;", 3);

        says("3 an N out of its bounds (one and the same CORNER).");
        faultDue("town 2;street 0 0;", 3, 16);
        faultDue("town 2;street 1 1;", 3, 16);
        faultDue("town 6;street 5 5;", 3, 16);
        faultDue("town 1;street 0 0;", 3, 16);
        faultDue("town 2;street 2 2;", 3, 14);
        faultDue("town 2;street 1 001;", 3, 16);
        faultDue("town 6;street 6 0;", 3, 14);
        faultDue("town 6;street 0 6;", 3, 16);
        faultDue("town 6;goer 6 year 19;", 3, 12);
        linesDue("town 1;shifts:999;may:999=0;", 3);

        says("4 the first TOKEN of a 9th street, a 4th goer; a seventh of not [ ( if.");
        faultDue("town 2;" + "street 0 1;".repeat(8) + "street", 4, 95);
        faultDue("town 2;" + "street 0 1;".repeat(8) + "bollards 1; street 0 1;", 4, 107);
        linesDue("town 2;" + "street 0 1;".repeat(8) + "bollards 1;shifts:street;", 11);
        faultDue("town 2;goer 0 year 1;goer 1 year 2;goer 0 year 3;goer", 4, 49);
        linesDue("town 2;goer 0 year 1;goer 1 year 2;goer 0 year 3;may:goer=1;", 5);
        faultDue("town 1;may:not not not not not not not", 4, 35);
        faultDue("town 1;may:[[[[[[[", 4, 17);
        faultDue("town 1;shifts:(((((((", 4, 20);
        faultDue("town 1;shifts:((((((if", 4, 20);
        due("eight streets again in the next text", tell(told(FULL), FULL), 13);
    }

    // ---- Terms: goings, laws

    private static void goings() {
        says("To GO a STREET of which one end is there: to the other end, if the SIGN lets it (going from its END to its BEGINNING it goes against it)");
        int[][] whyBySign = {{0, 2, 2}, {2, 0, 2}, {0, 0, 2}, {2, 2, 2}};
        for (int sign = 0; sign < 4; sign++) {
            OneWayPast x = told("town 4;street 1 2 years 3 sign " + sign + ";goer 1 year 5;goer 2 year 5;goer 3 year 5;");
            for (int g = 0; g < 3; g++) {
                due("why of sign " + sign + ", goer " + g, x.why(g, 0), whyBySign[sign][g]);
                boolean can = whyBySign[sign][g] == 0;
                due("corner", x.by(g, 0, 0), can ? 2 - g : -5);
                due("year", x.by(g, 0, 1), can ? g == 0 ? 8 : 2 : -5);
            }
        }

        says("and the law may holds (without one: always)");
        due("without", told("town 2;street 0 1;goer 0 year 0;").why(0, 0), 0);
        due("holds", told("town 2;street 0 1;goer 0 year 0;may:1=1;").why(0, 0), 0);
        due("doesn't", told("town 2;street 0 1;goer 0 year 0;may:1=2;").why(0, 0), 3);

        says("the YEAR is as much more as the law shifts tells (without one: the STREET's years, going against it as many less)");
        due("with", told("town 2;street 0 1 years 9;goer 0 year 1;shifts:2;").by(0, 0, 1), 3);
        due("with, against: not less", told("town 2;street 0 1 years 9 sign 2;goer 1 year 1;shifts:2;").by(0, 0, 1), 3);
        due("with one that tells 0", told("town 2;street 0 1 years 9;goer 0 year 1;shifts:0;").by(0, 0, 1), 1);
        due("without", told("town 2;street 0 1 years 9;goer 0 year 1;").by(0, 0, 1), 10);
        due("without, back", told("town 2;street 0 1 back 9;goer 0 year 10;").by(0, 0, 1), 1);
        due("without, against", told("town 2;street 0 1 years 9 sign 1;goer 1 year 10;").by(0, 0, 1), 1);
        due("without, back, against", told("town 2;street 0 1 back 9 sign 1;goer 1 year 1;").by(0, 0, 1), 10);

        says("it can't, if that is below 0 or above 19.");
        for (int year = 0; year < 20; year++) {
            OneWayPast x = told("town 2;street 0 1 years 9 sign 2;street 0 1 back 9 sign 2;goer 0 year " + year + ";goer 1 year " + year + ";");
            boolean less = year >= 9;
            boolean more = year <= 10;
            due("9 more", x.by(0, 0, 1), more ? year + 9 : -5);
            due("9 less", x.by(0, 1, 1), less ? year - 9 : -5);
            due("against, 9 less", x.by(1, 0, 1), less ? year - 9 : -5);
            due("against, 9 more", x.by(1, 1, 1), more ? year + 9 : -5);
            due("why", 1000 * x.why(0, 0) + 100 * x.why(0, 1) + 10 * x.why(1, 0) + x.why(1, 1),
                    (more ? 0 : 4004) + (less ? 0 : 440));
        }
        due("from 0 to 19", told("town 2;street 0 1;goer 0 year 0;shifts:19;").by(0, 0, 1), 19);
        due("from 0 to 20", told("town 2;street 0 1;goer 0 year 0;shifts:20;").why(0, 0), 4);
        due("from 19 to 0", told("town 2;street 0 1;goer 0 year 19;shifts:0-19;").by(0, 0, 1), 0);
        due("from 19 to -1", told("town 2;street 0 1;goer 0 year 19;shifts:0-20;").why(0, 0), 4);
        due("far more", told("town 2;street 0 1;goer 0 year 19;shifts:999*999*999;").why(0, 0), 4);
        due("far less", told("town 2;street 0 1;goer 0 year 0;shifts:0-999*999*999;").why(0, 0), 4);
    }

    private static void laws() {
        says("street: its number, years: as told (below 0: back), year: the YEAR ahead, against: 1 if it goes against it, else 0, bollards: how many there are; in may goer: the number of the GOER.");
        OneWayPast x = told("town 3;street 0 1 years 9 sign 2;street 0 1 back 9 sign 2;goer 0 year 10;goer 1 year 10;goer 1 year 0;bollards 9;"
                + "shifts:street;");
        due("street 0", x.by(0, 0, 1), 10);
        due("street 1", x.by(0, 1, 1), 11);
        due("street 7", told(FULL + "shifts:street;").by(2, 7, 1), 14);
        due("against", told("town 2;street 0 1 sign 2;goer 0 year 0;goer 1 year 0;shifts:against;").by(0, 0, 1), 0);
        due("against", told("town 2;street 0 1 sign 2;goer 0 year 0;goer 1 year 0;shifts:against;").by(1, 0, 1), 1);
        due("years", told("town 2;street 0 1 years 9 sign 2;goer 1 year 0;shifts:years;").by(0, 0, 1), 9);
        due("years back, against as along", told("town 2;street 0 1 back 9 sign 2;goer 1 year 9;shifts:years;").by(0, 0, 1), 0);
        due("year 0", told("town 2;street 0 1;goer 0 year 0;shifts:19-year;").by(0, 0, 1), 19);
        due("year 19", told("town 2;street 0 1;goer 0 year 19;shifts:0-year;").by(0, 0, 1), 0);
        OneWayPast b = told("town 2;street 0 1;goer 0 year 0;shifts:bollards;");
        due("no bollards", b.by(0, 0, 1), 0);
        b.bollards(9);
        due("nine bollards", b.by(0, 0, 1), 9);
        b.undo(1);
        due("none again", b.by(0, 0, 1), 0);
        OneWayPast g = told("town 2;street 0 1;goer 0 year 0;goer 0 year 0;goer 0 year 0;may:goer=2;");
        due("goers", 100 * g.why(0, 0) + 10 * g.why(1, 0) + g.why(2, 0), 330);
        due("goer 0", told("town 2;street 0 1;goer 0 year 0;may:goer=0;").why(0, 0), 0);
    }

    private static void keptNumbers() {
        says("Each + - * is kept from -1,000,000 to 1,000,000");
        String million = "(999+1)*(999+1)";
        due("a million", may(0, million + "-1<" + million), 0);
        due("a million by +", may(0, "999*999+999+999+1=" + million), 0);
        due("one below it", may(0, "999*999+999+999=" + million + "-1"), 0);
        due("+ one more", may(0, "999*999+999+999+2=" + million), 0);
        due("+ one more, then less", may(0, million + "+1-1<" + million), 0);
        due("+ a million more", may(0, million + "+" + million + "=" + million), 0);
        due("less a million", may(0, "0-" + million + "<0-" + million + "+1"), 0);
        due("one above it", may(0, "0-" + million + "+1-1=0-" + million), 0);
        due("- one more", may(0, "0-" + million + "-1=0-" + million), 0);
        due("- one more, then less", may(0, "0-" + million + "-1+1>0-" + million), 0);
        due("- a million more", may(0, "0-" + million + "-" + million + "=0-" + million), 0);
        due("- of less a million", may(0, "1-(0-" + million + ")=" + million), 0);
        due("+ of less a million", may(0, "(0-" + million + ")+(0-1)=0-" + million), 0);
        due("* just a million", may(0, "(999+1)*(999+1)-999*999=999+999+1"), 0);
        due("* above", may(0, "(999+2)*(999+1)=" + million), 0);
        due("* below", may(0, "(0-999-2)*(999+1)=0-" + million), 0);
        due("* just less a million", may(0, "(0-999-1)*(999+1)+1>0-" + million), 0);
        due("* of both", may(0, "(0-999-2)*(0-999-2)=" + million), 0);
        due("* two to the 32nd", may(0, "(256*256)*(256*256)=" + million), 0);
        due("* two to the 31st", may(0, "(256*256)*(256*128)=" + million), 0);
        due("* a million times a million", may(0, "(" + million + ")*(" + million + ")=" + million), 0);
        due("* a million times less a million", may(0, "(" + million + ")*(0-" + million + ")=0-" + million), 0);
        due("each, not the whole", may(0, "999*999*999*0=0 and 999*999*999-999*999*999=0"), 0);
    }

    private static void choices() {
        says("if tells the one SUM, if the TRUTH holds, else the other one.");
        due("holds", shift("if 1=1 then 5 else 6 end"), 5);
        due("doesn't", shift("if 1=2 then 5 else 6 end"), 6);
        due("0 as the one", shift("if 1=1 then 0 else 6 end"), 0);
        due("0 as the other", shift("if 1=2 then 5 else 0 end"), 0);
        due("below 0", shift("if 1=1 then 0-5 else 6 end"), -5);
        due("one in another's then", shift("if 1=1 then if 1=2 then 1 else 2 end else 3 end"), 2);
        due("one in another's else", shift("if 1=2 then 1 else if 1=1 then 2 else 3 end end"), 2);
        due("one in another's if", shift("if if 1=1 then 1 else 2 end=2 then 3 else 4 end"), 4);
        due("in a sum", shift("1+if 1=1 then 2 else 3 end*3"), 7);

        says("Why not: 1 no such GOER, STREET, SIGN, CORNER, YEAR, number. 2 no end of it is there, the SIGN doesn't let it. 3 the law may. 4 the YEAR would be none.");
        OneWayPast w = told("town 3;street 0 1 back 1;street 1 2;goer 0 year 0;may:1=2;");
        due("1", w.why(1, 0), 1);
        due("1", w.why(0, 2), 1);
        due("1: sign", w.sign(0, 4), -11);
        due("1: corner", w.put(0, 3, 0), -11);
        due("1: year", w.put(0, 0, 20), -11);
        due("1: number", w.bollards(10), -11);
        due("2 ahead of 3: no end", w.why(0, 1), 2);
        due("3 ahead of 4", w.why(0, 0), 3);
        w.sign(0, 1);
        due("2 ahead of 3 and 4: the sign", w.why(0, 0), 2);
        due("4", told("town 2;street 0 1 back 1;goer 0 year 0;").why(0, 0), 4);
    }

    // ---- Terms: deeds in a tray, what can be undone

    /** Why the deed that v tells can't be done, by the calls themselves. */
    private static long whyByCall(OneWayPast x, int v) {
        long answer = -11;
        if (v >= 0 && v <= 99) {
            answer = x.go(v / 10, v % 10);
        } else if (v >= 100 && v <= 199) {
            answer = x.sign((v - 100) / 10, v % 10);
        } else if (v >= 200 && v <= 209) {
            answer = x.bollards(v - 200);
        } else if (v >= 1000 && v <= 3999) {
            answer = x.put((v - 1000) / 1000, v % 1000 / 100, v % 100);
        }
        return answer >= 0 ? 0 : -10 - answer;
    }

    private static void deedsInTrays() {
        says("DEEDS in a TRAY: 0 to 99: GOER v by 10 GOES STREET v modulo 10; 100 to 199: STREET (v - 100) by 10 has SIGN v modulo 10; 200 to 209: BOLLARDS v - 200; 1000 to 3999: GOER (v - 1000) by 1000 is PUT to CORNER (v modulo 1000) by 100, YEAR v modulo 100; others: 1.");
        long[] can = {0, 5, 6, 14, 15, 23, 24, 27, 100, 103, 170, 173, 200, 209, 1000, 1019, 1500, 1519, 2000, 2519, 3000, 3519};
        for (long v : can) {
            due("judge of " + v, tray(told(FULL), 0, 3, v).judge(0, 0), -1);
        }
        long[] none = {-1, 8, 9, 19, 28, 30, 99, 104, 109, 174, 180, 199, 210, 999, 1020, 1099, 1520, 1600, 1999, 2020, 2600, 3520,
                3600, 3999, 4000, 4019, 5000, MAX, MIN, 1L << 32, (1L << 32) + 200, -(1L << 32), Long.MAX_VALUE, Long.MIN_VALUE};
        for (long v : none) {
            due("judge of " + v, tray(told(FULL), 0, 3, v).judge(0, 1), 1);
        }
        for (int v = -210; v < 4220; v++) {
            OneWayPast byTray = tray(told(FULL), 0, 2, v);
            OneWayPast byCall = tray(told(FULL), 0, 2, v);
            long whyNot = whyByCall(byCall, v);
            due("why of " + v, byTray.judge(0, 1), whyNot);
            due("perform of " + v, byTray.perform(0), whyNot == 0 ? 1 : 0);
            alike("view behind " + v, view(byTray), view(byCall));
        }
    }

    private static void undoneCalls() {
        says("Calls that did some can be UNDONE each as a whole, the latest first, 10 at most (eldest are forgotten): GOERS, SIGNS, BOLLARDS.");
        OneWayPast x = told("town 2;street 0 1 sign 2;goer 0 year 0;");
        List<Integer> ahead = new ArrayList<>();
        int[] steps = {1, 2, 10, 3, 1, 4, 10, 9, 1, 1, 10};
        int done = 0;
        for (int step : steps) {
            for (int i = 0; i < step + 3; i++) {
                ahead.add(x.goer(0, 1));
                done++;
                x.put(0, 0, done * 7 % 20);
                if (ahead.size() > 10) {
                    ahead.remove(0);
                }
                due("can be undone", x.count(6), ahead.size());
            }
            due("one too many", x.undo(ahead.size() + 1), -3);
            int n = Math.min(step, ahead.size());
            int back = ahead.get(ahead.size() - n);
            ahead.subList(ahead.size() - n, ahead.size()).clear();
            due("undo " + n, x.undo(n), ahead.size());
            due("the year of then", x.goer(0, 1), back);
        }
        while (!ahead.isEmpty()) {
            int back = ahead.remove(ahead.size() - 1);
            due("undo 1", x.undo(1), ahead.size());
            due("the year of then", x.goer(0, 1), back);
        }
        due("no more", x.undo(1), -3);

        OneWayPast y = told("town 2;street 0 1 years 1 sign 2;goer 0 year 0;bollards 1;");
        y.go(0, 0);
        y.sign(0, 3);
        y.bollards(9);
        y.put(0, 0, 19);
        tray(y, 0, 1, 102, 1010, 0, 205, 1020);
        due("perform", y.perform(0), 4);
        due("five calls", y.count(6), 5);
        due("a tray as a whole", y.undo(1), 4);
        due("all of it", at(y, 0) * 100 + y.street(0, 2) * 10 + y.count(3), 19 * 100 + 39);
        due("put", y.undo(1) * 1000 + at(y, 0), 3101);
        due("bollards", y.undo(1) * 10 + y.count(3), 21);
        due("sign", y.undo(1) * 10 + y.street(0, 2), 12);
        due("go", y.undo(1) * 10 + at(y, 0), 0);
        tray(y, 0, 1, 210, 0);
        due("a tray that did none", y.perform(0) * 10 + y.count(6), 0);
        tray(y, 0, 1);
        due("an empty tray", y.perform(0) * 10 + y.count(6), 0);
        due("to what already is", y.bollards(1) * 10 + y.count(6), 11);
        due("to what already is", y.sign(0, 2) * 10 + y.count(6), 22);
        due("to what already is", y.put(0, 0, 0) * 10 + y.count(6), 3);
        due("refused", y.go(0, 1), -11);
        due("refused calls aren't", y.count(6), 3);
        OneWayPast z = told("town 1;");
        int seed = 0;
        while (draws(seed)[0] % 6 == 5) {
            seed++;
        }
        due("a day on which none could be", z.day(seed, 1) * 10 + z.count(6), 0);
        while (draws(seed)[0] % 6 != 5) {
            seed++;
        }
        due("a day on which one could be", z.day(seed, 1) * 10 + z.count(6), 11);
        due("a day as a whole", tell(z, FULL), 13);
        String was = view(z);
        due("a long day", z.day(4, 40) > 10 ? 1 : 0, 1);
        due("undone at once", z.undo(1), 0);
        alike("a day as a whole", view(z), was);
    }

    /** The first 120 draws by a seed, by arithmetic that doesn't wrap around by itself. */
    private static int[] draws(int seed) {
        int[] all = new int[120];
        long x = seed & 0xffffffffL;
        for (int i = 0; i < all.length; i++) {
            x = Math.floorMod(1103515245L * x + 12345L, 1L << 32);
            all[i] = (int) (x / 65536);
        }
        return all;
    }

    // ---- Terms: searches

    private static void termsOfSearches() {
        says("A ROW of a GOER: STREETS it GOES from now on, one behind the other, nothing else being done.");
        OneWayPast row = told("town 2;street 0 1 sign 2;goer 0 year 18;goer 0 year 19;shifts:1;");
        due("of no goings", row.rows(0, 0, 18, 0), 1);
        due("of one", row.rows(0, 1, 19, 1), 1);
        due("of two: there is no year 20", row.rows(0, 0, -1, 2), 0);
        due("of none alone", row.rows(1, 0, -1, 0) * 10 + row.rows(1, 1, -1, 1), 10);

        says("COMING to a CORNER in a YEAR (NONE: in any): the fewest GOINGS, of like ones the first by STREETS.");
        OneWayPast x = told("town 4;street 2 3;street 1 3;street 0 2;street 0 1 years 2;street 0 1;goer 0 year 0;");
        due("any year", x.soonest(0, 3, -1), 2);
        due("the first by streets", 10 * x.way(0, 3, -1, 0) + x.way(0, 3, -1, 1), 20);
        due("in year 0", 10 * x.way(0, 3, 0, 0) + x.way(0, 3, 0, 1), 20);
        due("in year 2", 10 * x.way(0, 3, 2, 0) + x.way(0, 3, 2, 1), 31);
        due("to 1", x.way(0, 1, -1, 0), 3);
        due("to 1 in year 0", x.way(0, 1, 0, 0), 4);
        due("fewest ahead of first", told("town 3;street 0 1;street 1 2;street 0 2;goer 0 year 0;").way(0, 2, -1, 0), 2);
        due("where it is: none", x.soonest(0, 0, -1), 0);
    }

    private static void termsOfMeetings() {
        says("MEETING of two GOERS: a ROW of each, behind which both are at one CORNER in one YEAR: the fewest GOINGS together, of like ones the least CORNER, then the least YEAR.");
        OneWayPast m = told("town 3;street 0 2 years 1;street 1 2 years 1;street 0 1;street 1 0;goer 0 year 3;goer 1 year 3;");
        due("least corner", 10 * m.meet(0, 1) + m.meetAt(0, 1, 0), 10);
        due("asked the other way", 10 * m.meet(1, 0) + m.meetAt(1, 0, 0), 10);
        OneWayPast y = told("town 2;street 0 1 years 5;street 0 1 years 2;goer 0 year 3;goer 0 year 3;");
        due("where both are: none", 100 * y.meet(0, 1) + 10 * y.meetAt(0, 1, 0) + y.meetAt(0, 1, 1), 3);
        OneWayPast l = told("town 2;street 0 1 years 5;street 0 1 years 2;street 1 0;goer 0 year 3;goer 0 year 3;may:year=3;");
        l.put(1, 1, 9);
        due("one can't go on", l.meet(0, 1), -1);
        OneWayPast k = told("town 3;street 0 2 years 5;street 0 2 years 2;street 1 2 years 5;street 1 2 years 2;goer 0 year 3;goer 1 year 3;");
        due("least year", 100 * k.meet(0, 1) + 10 * k.meetAt(0, 1, 0) + k.meetAt(0, 1, 1), 225);

        says("A RING of a GOER: a CORNER in a YEAR to which it can come (or where it is now), and from there by one GOING or more to the same CORNER in the same YEAR again.");
        due("no goings are no ring", told("town 2;street 0 1;goer 0 year 0;").ring(0), -1);
        due("where it is now", told("town 2;street 0 1 years 1 sign 2;goer 0 year 0;").ring(0), 2);
        due("where it can come", told("town 3;street 0 1;street 1 2 sign 2;goer 0 year 0;").ring(0), 2);
        due("where it can't", told("town 3;street 1 0;street 1 2 sign 2;goer 0 year 0;").ring(0), -1);
        due("the same corner, another year", told("town 2;street 0 1 years 1;street 1 0;goer 0 year 0;").ring(0), -1);

        says("BY-LAWS for a GOER: SIGNS 0 or 1 for all STREETS that aren't SHUT (those that are stay so), by which it has no RING: told as bits, 1 for SIGN 1 (SHUT: 0).");
        due("no streets: one", told("town 2;goer 0 year 0;").laws(0), 1);
        due("all shut: one", told("town 2;" + "street 0 1 sign 3;".repeat(8) + "goer 0 year 0;").laws(0), 1);
        due("all shut: as bits", told("town 2;" + "street 0 1 sign 3;".repeat(8) + "goer 0 year 0;").bylaw(0, 1), 0);
        due("eight that make no ring", told("town 2;" + "street 0 1 years 1;".repeat(8) + "goer 0 year 0;may:against=0;").laws(0), 256);
        due("a shut one stays so", told("town 2;street 0 1 sign 3;street 0 1;goer 0 year 0;").laws(0), 2);
        due("0 for it", told("town 2;street 0 1 sign 3;street 0 1 sign 1;goer 0 year 0;").bylaw(0, 1), 2);
    }

    private static void termsOfShutting() {
        says("SHUTTING: STREETS that aren't SHUT, to be SHUT so that a GOER can't COME to a CORNER in any YEAR: the fewest, of like ones the least set as bits.");
        due("none are needed", told("town 2;goer 0 year 0;").shut(0, 1, 0), 0);
        due("all eight", told("town 2;" + "street 0 1;".repeat(8) + "goer 0 year 0;").shut(0, 1, 1), 255);
        due("a shut one isn't", told("town 2;street 0 1 sign 3;street 0 1;goer 0 year 0;").shut(0, 1, 1), 2);
        due("the least set", told("town 3;street 1 2;street 0 1;goer 0 year 0;").shut(0, 2, 1), 1);
        due("fewest ahead of least", told("town 3;street 1 2;street 1 2;street 0 1;goer 0 year 0;").shut(0, 2, 1), 4);
        due("in any year", told("town 2;street 0 1 years 9;street 0 1;goer 0 year 0;").shut(0, 1, 1), 3);

        says("FORCING: child and warden by turns, the child first: it GOES a STREET, or none; the warden SHUTS a STREET that isn't, or none");
        due("the child first", told("town 2;street 0 1;goer 0 year 0;").forces(0, 1), 1);
        due("the warden shuts one", told("town 3;street 0 1;street 1 2;goer 0 year 0;").forces(0, 2), -1);
        due("one of two", told("town 3;street 0 1;street 1 2;street 1 2;goer 0 year 0;").forces(0, 2), 2);
        due("a shut one is none of two", told("town 3;street 0 1;street 1 2;street 1 2 sign 3;goer 0 year 0;").forces(0, 2), -1);
        due("without streets", told("town 2;goer 0 year 0;").forces(0, 1), -1);
        due("the warden shuts street 0", told("town 3;street 1 2;street 0 1;goer 0 year 0;").forces(0, 2), -1);
        due("to corner 0 in year 0", told("town 2;street 1 0 back 9;goer 1 year 9;").forces(0, 0), 1);
        due("through corner 0 in year 0", told("town 3;street 1 0 back 9;street 0 2;street 0 2;goer 1 year 9;").forces(0, 2), 2);

        says("the child FORCES a CORNER within n turns of its own (0 to 3), if it can GO so that it is there (in any YEAR) behind one of these, whatever the warden does.");
        // Three to the first corner, one more each time than the warden can shut.
        String chain = "town 5;street 0 1;street 1 2;street 1 2;street 2 3;street 2 3;street 2 3;street 3 4;street 3 4;";
        for (int c = 0; c < 4; c++) {
            due("within " + c, told(chain + "goer 0 year 0;").forces(0, c), c);
            due("by street", told(chain + "goer 0 year 0;").best(0, c), c == 0 ? -1 : 0);
        }
        due("not within 3", told(chain + "goer 0 year 0;").forces(0, 4), -1);
        due("not by any street", told(chain + "goer 0 year 0;").best(0, 4), -1);
        due("in any year", told("town 3;street 0 1 years 9;street 1 2 years 9;street 1 2 back 9;goer 0 year 1;").forces(0, 2), 2);
        due("whatever the warden does", told("town 3;street 0 1 years 9;street 1 2 years 9;street 1 2 back 9;goer 0 year 2;").forces(0, 2), -1);
    }

    private static void termsOfChances() {
        says("CHANCE: n times (0 to 6) one of all STREETS is drawn, each as likely; the GOER GOES it, if it can (without STREETS: nothing is drawn): how likely it is at a CORNER then, in lowest terms.");
        OneWayPast c = told("town 2;" + "street 0 1;".repeat(4) + "street 1 0;".repeat(4) + "goer 0 year 0;");
        due("half, in lowest terms", 10 * c.chance(0, 1, 1, 0) + c.chance(0, 1, 1, 1), 12);
        due("half, behind six", 10 * c.chance(0, 1, 6, 0) + c.chance(0, 1, 6, 1), 12);
        OneWayPast s = told("town 2;goer 1 year 19;");
        due("without streets", 10 * s.chance(0, 1, 6, 0) + s.chance(0, 1, 6, 1), 11);
        due("without streets", 10 * s.chance(0, 0, 6, 0) + s.chance(0, 0, 6, 1), 1);
        due("without streets", 10 * s.mean(0, 6, 0) + s.mean(0, 6, 1), 191);
        OneWayPast e = told("town 2;street 0 1;" + "street 0 1 sign 3;".repeat(7) + "goer 0 year 0;");
        due("one of all, shut ones too", 10 * e.chance(0, 1, 1, 0) + e.chance(0, 1, 1, 1), 18);
        // It is still at 0 if none of six drew street 0.
        due("seven eighths to the sixth", e.chance(0, 0, 6, 0), 117649);
        due("eight to the sixth", e.chance(0, 0, 6, 1), 262144);
    }

    private static void termsOfDays() {
        says("A DAY by a SEED (x, an int; a DRAW: x becomes 1103515245 x + 12345, it is x >>> 16)");
        for (int seed : new int[] {0, 1, -1, 2, 4, 65535, 65536, 0x7fff0000, MAX, MIN, MIN + 1, 987654321, -987654321}) {
            for (int times : new int[] {1, 2, 39, 40}) {
                OneWayPast byDay = told(FULL);
                OneWayPast byCalls = told(FULL);
                int could = drawnByCalls(byCalls, draws(seed), times);
                due("day " + seed + ", " + times, byDay.day(seed, times), could);
                due("years", byDay.count(5), byCalls.count(5));
                due("shut", byDay.count(4), byCalls.count(4));
                due("bollards", byDay.count(3), byCalls.count(3));
                for (int s2 = 0; s2 < 8; s2++) {
                    due("sign " + s2, byDay.street(s2, 2), byCalls.street(s2, 2));
                }
                for (int g = 0; g < 3; g++) {
                    due("goer " + g, at(byDay, g), at(byCalls, g));
                }
            }
        }
    }

    private static void drawnDeeds() {
        says("so many times (1 to 40): DRAW modulo 6: 0 to 3 GOER DRAW modulo 3 GOES STREET DRAW modulo 8; 4 STREET DRAW modulo 8 has SIGN DRAW modulo 4; 5 BOLLARDS DRAW modulo 10; as in a TRAY, if it can be.");
        for (int kind = 0; kind < 6; kind++) {
            for (int more = 0; more < 40; more++) {
                int seed = seedOf(kind);
                for (int i = 0; i < more; i++) {
                    seed++;
                    while (draws(seed)[0] % 6 != kind) {
                        seed++;
                    }
                }
                int[] drawn = draws(seed);
                long deed = kind == 5 ? 200 + drawn[1] % 10
                        : kind == 4 ? 100 + drawn[1] % 8 * 10 + drawn[2] % 4 : drawn[1] % 3 * 10 + drawn[2] % 8;
                OneWayPast byDay = tray(told(FULL), 0, 1, deed);
                OneWayPast byTray = tray(told(FULL), 0, 1, deed);
                due("day of kind " + kind + ": " + deed, byDay.day(seed, 1), byTray.perform(0));
                alike("as in a tray " + deed, view(byDay), view(byTray));
            }
        }
        due("0 times", told(FULL).day(1, 0), -3);
        due("1 time", told(FULL).day(seedOf(5), 1), 1);
        due("40 times", new OneWayPast().day(1, 40) >= 0 ? 1 : 0, 1);
        due("41 times", told(FULL).day(1, 41), -3);
    }

    /** A day of one time on which the first draw is of that kind. */
    private static int seedOf(int kind) {
        int seed = 0;
        while (draws(seed)[0] % 6 != kind) {
            seed++;
        }
        return seed;
    }

    private static int drawnByCalls(OneWayPast x, int[] draws, int times) {
        int at = 0;
        int could = 0;
        for (int i = 0; i < times; i++) {
            int kind = draws[at++] % 6;
            long answer;
            if (kind == 5) {
                answer = x.bollards(draws[at++] % 10);
            } else if (kind == 4) {
                int s = draws[at++] % 8;
                answer = x.sign(s, draws[at++] % 4);
            } else {
                int g = draws[at++] % 3;
                answer = x.go(g, draws[at++] % 8);
            }
            could += answer >= 0 ? 1 : 0;
        }
        return could;
    }

    // ---- Terms: refused calls

    private static void codes() {
        says("-2 there is none such; -3 a number can't be; -4 too many; -5 it can't be now; -6 a TRAY is MISSING; -7 it has no such number; -11 to -14 why not (1 to 4); -30 less the FAULT: a text.");
        OneWayPast x = busy();
        due("-2", x.goer(2, 0), -2);
        due("-3", x.undo(0), -3);
        due("-4", x.from(3, 0, 0), -4);
        due("-5", x.restore(1), -5);
        due("-6", x.perform(0), -6);
        due("-7", x.write(3, 0, 0), -7);
        due("-11", x.go(2, 0), -11);
        due("-12", x.go(0, 3), -12);
        due("-13", x.go(0, 1), -13);
        due("-14", x.go(1, 3), -14);
        x.town(0);
        due("-31", tell(x, "A"), -31);
        due("-32", tell(x, "a"), -32);
        due("-33", tell(x, "town 9"), -33);
        due("-34", tell(x, "town 1;shifts:((((((("), -34);
    }

    private static void manyCalls() {
        says("An object is used for at most 512 calls after it has been made; what later calls answer is free.");
        OneWayPast much = new OneWayPast();
        for (int i = 0; i < 26; i++) {
            much.feed(0x746f776e, 0x20323b67, 0x6f657220, 0x31207965, 0x61722033 + i % 4);
            much.feed(0x3b202020, 0x20202020, 0x20202020, 0x20202020, 0x20202020);
            due("town", much.town(22), 2);
            for (int n = 0; n < 4; n++) {
                due("put", much.put(0, 0, n), n == 0 ? 103 + i % 4 : n - 1);
                due("undone", much.count(6), n + 1);
                due("image", much.image(n % 2), 0);
            }
            due("undo", much.undo(2), 2);
            due("restore", much.restore(0), 0);
            due("year", much.goer(0, 1), 2);
            due("tray", much.numbers(i % 4, 3, 40), 0);
        }
    }

    /** Two undone calls, a fault, a tape, three trays, an image: something of all that a call could change. */
    private static OneWayPast busy() {
        OneWayPast x = told("town 4;street 0 1 years 3;street 1 2 back 2 sign 2;street 2 3 years 5;street 3 0 back 6;street 0 3 sign 3;"
                + "goer 0 year 5;goer 2 year 10;bollards 3;may : not street = 1 or bollards < 3;");
        x.put(1, 3, 5);
        x.image(0);
        tray(x, 1, 1, 0, 204, 2119, 1);
        tray(x, 2, 0, 0, 1);
        tray(x, 3, 3);
        tell(x, "town 9;");
        x.sign(0, 2);
        x.go(0, 0);
        feed(x, "town 3;");
        return x;
    }

    private static void refused(String call, long code, ToLongFunction<OneWayPast> calling) {
        OneWayPast x = busy();
        OneWayPast twin = busy();
        due(call, calling.applyAsLong(x), code);
        alike(call + " changed", view(x), view(twin));
        due(call + ": undo", x.undo(1), twin.undo(1));
        alike(call + " changed what undoing brings back", view(x), view(twin));
        due(call + ": town", x.town(7), twin.town(7));
        due(call + ": restore", x.restore(0), twin.restore(0));
        alike(call + " changed an image", view(x), view(twin));
        due(call + ": the other image", x.restore(1), -5);
    }

    private static void refusals() {
        says("Refused calls answer by a code and change nothing");
        for (int s : new int[] {-1, 5, 8, MIN, MAX}) {
            refused("street " + s, -2, x -> x.street(s, 0));
            refused("why " + s, 1, x -> x.why(0, s));
            refused("by " + s, -5, x -> x.by(0, s, 0));
            refused("go " + s, -11, x -> x.go(0, s));
            refused("sign " + s, -11, x -> x.sign(s, 0));
        }
        for (int g : new int[] {-1, 2, 3, MIN, MAX}) {
            refusedGoers(g);
        }
        for (int c : new int[] {-1, 4, 6, MIN, MAX}) {
            refusedCorners(c);
        }
        for (int year : new int[] {-2, 20, MIN, MAX}) {
            refusedYears(year);
        }
        for (int tray : new int[] {-1, 4, MIN, MAX}) {
            refusedTrays(tray);
        }
        for (int what : new int[] {-1, 4, MIN, MAX}) {
            refused("street what " + what, -2, x -> x.street(0, what));
            refused("goer what " + what, -2, x -> x.goer(0, what));
            refused("judge what " + what, -2, x -> x.judge(1, what));
        }
        for (int what : NO_WHAT_OF_TWO) {
            refused("by what " + what, -2, x -> x.by(0, 0, what));
            refused("bound what " + what, -2, x -> x.bound(0, what));
            refused("meetAt what " + what, -2, x -> x.meetAt(0, 1, what));
            refused("bylaw what " + what, -2, x -> x.bylaw(0, what));
            refused("shut what " + what, -2, x -> x.shut(0, 3, what));
            refused("chance what " + what, -2, x -> x.chance(0, 0, 1, what));
            refused("mean what " + what, -2, x -> x.mean(0, 1, what));
        }
        refusedNumbers();
    }

    private static void refusedGoers(int g) {
        refused("goer " + g, -2, x -> x.goer(g, 0));
        refused("why " + g, 1, x -> x.why(g, 0));
        refused("by " + g, -5, x -> x.by(g, 0, 0));
        refused("go " + g, -11, x -> x.go(g, 0));
        refused("put " + g, -11, x -> x.put(g, 0, 0));
        refused("soonest " + g, -2, x -> x.soonest(g, 0, 0));
        refused("way " + g, -2, x -> x.way(g, 0, 0, 0));
        refused("rows " + g, -2, x -> x.rows(g, 0, 0, 0));
        refused("when " + g, -2, x -> x.when(g, 0));
        refused("bound " + g, -2, x -> x.bound(g, 0));
        refused("reach " + g, -2, x -> x.reach(g));
        refused("meet " + g, -2, x -> x.meet(g, 0));
        refused("meet with " + g, -2, x -> x.meet(0, g));
        refused("meetAt " + g, -2, x -> x.meetAt(g, 0, 0));
        refused("meetAt with " + g, -2, x -> x.meetAt(0, g, 0));
        refused("ring " + g, -2, x -> x.ring(g));
        refused("laws " + g, -2, x -> x.laws(g));
        refused("bylaw " + g, -2, x -> x.bylaw(g, 0));
        refused("shut " + g, -2, x -> x.shut(g, 0, 0));
        refused("needed " + g, -2, x -> x.needed(g, 0));
        refused("from " + g, -2, x -> x.from(2, g, 0));
        refused("bollardsBy " + g, -2, x -> x.bollardsBy(2, g, 0));
        refused("attempt " + g, -2, x -> x.attempt(2, g, 0));
        refused("forces " + g, -2, x -> x.forces(g, 0));
        refused("best " + g, -2, x -> x.best(g, 0));
        refused("chance " + g, -2, x -> x.chance(g, 0, 0, 0));
        refused("mean " + g, -2, x -> x.mean(g, 0, 0));
        refused("likeliest " + g, -2, x -> x.likeliest(g, 0));
        refused("lists " + g, -2, x -> x.lists(1, g, 0, -1));
    }

    private static void refusedCorners(int c) {
        refused("put to " + c, -11, x -> x.put(0, c, 0));
        refused("soonest to " + c, -2, x -> x.soonest(0, c, 0));
        refused("way to " + c, -2, x -> x.way(0, c, 0, 0));
        refused("rows to " + c, -2, x -> x.rows(0, c, 0, 0));
        refused("when at " + c, -2, x -> x.when(0, c));
        refused("shut " + c, -2, x -> x.shut(0, c, 0));
        refused("needed " + c, -2, x -> x.needed(0, c));
        refused("forces " + c, -2, x -> x.forces(0, c));
        refused("best " + c, -2, x -> x.best(0, c));
        refused("chance of " + c, -2, x -> x.chance(0, c, 0, 0));
        refused("lists to " + c, -2, x -> x.lists(1, 0, c, -1));
    }

    private static void refusedYears(int year) {
        refused("put in " + year, -11, x -> x.put(0, 0, year));
        refused("soonest in " + year, -3, x -> x.soonest(0, 0, year));
        refused("way in " + year, -3, x -> x.way(0, 0, year, 0));
        refused("rows in " + year, -3, x -> x.rows(0, 0, year, 0));
        refused("from in " + year, -3, x -> x.from(2, 0, year));
        refused("bollardsBy in " + year, -3, x -> x.bollardsBy(2, 0, year));
        refused("attempt in " + year, -3, x -> x.attempt(2, 0, year));
        refused("lists in " + year, -3, x -> x.lists(1, 0, 0, year));
    }

    private static void refusedTrays(int tray) {
        refused("judge " + tray, -2, x -> x.judge(tray, 0));
        refused("perform " + tray, -2, x -> x.perform(tray));
        refused("from " + tray, -2, x -> x.from(tray, 0, 0));
        refused("bollardsBy " + tray, -2, x -> x.bollardsBy(tray, 0, 0));
        refused("attempt " + tray, -2, x -> x.attempt(tray, 0, 0));
        refused("numbers " + tray, -2, x -> x.numbers(tray, 0, 1));
        refused("write " + tray, -2, x -> x.write(tray, 0, 1));
        refused("lists " + tray, -2, x -> x.lists(tray, 0, 0, -1));
        refused("image " + tray, -2, x -> x.image(tray));
        refused("restore " + tray, -2, x -> x.restore(tray));
    }

    private static void refusedNumbers() {
        for (int n : new int[] {-1, 4, MIN, MAX}) {
            refused("sign as " + n, -11, x -> x.sign(0, n));
            refused("numbers of sort " + n, -2, x -> x.numbers(1, n, 1));
        }
        for (int n : new int[] {-1, 10, MIN, MAX}) {
            refused("bollards " + n, -11, x -> x.bollards(n));
        }
        for (int n : new int[] {0, -1, 4, 10, 11, MIN, MAX}) {
            refused("undo " + n, -3, x -> x.undo(n));
        }
        for (int n : new int[] {0, -1, 41, MIN, MAX}) {
            refused("day of " + n, -3, x -> x.day(1, n));
        }
        for (int n : new int[] {-1, 13, MIN, MAX}) {
            refused("rows of " + n, -3, x -> x.rows(0, 0, -1, n));
        }
        for (int n : new int[] {-1, 7, MIN, MAX}) {
            refused("chance of " + n, -3, x -> x.chance(0, 0, n, 0));
            refused("mean of " + n, -3, x -> x.mean(0, n, 0));
            refused("likeliest of " + n, -3, x -> x.likeliest(0, n));
        }
        for (int n : new int[] {-1, 41, MIN, MAX}) {
            refused("numbers of " + n, -3, x -> x.numbers(1, 0, n));
        }
        for (int i : new int[] {-1, 4, 40, MIN, MAX}) {
            refused("write at " + i, -7, x -> x.write(1, i, 1));
        }
        for (int i : new int[] {-1, MIN}) {
            refused("way at " + i, -3, x -> x.way(0, 0, -1, i));
        }
        for (int n : new int[] {-1, 21, 900, 901, MIN, MAX}) {
            refused("town of " + n, -3, x -> x.town(n));
        }
        for (int i : new int[] {2, 3}) {
            refused("image " + i, -2, x -> x.image(i));
            refused("restore " + i, -2, x -> x.restore(i));
        }
        refused("restore 1", -5, x -> x.restore(1));
        refused("meet one", -2, x -> x.meet(1, 1));
        refused("meetAt one", -2, x -> x.meetAt(1, 1, 0));
        refused("judge of none", -6, x -> x.judge(0, 0));
        refused("perform of none", -6, x -> x.perform(0));
        refused("from of none", -6, x -> x.from(0, 0, 0));
        refused("bollardsBy of none", -6, x -> x.bollardsBy(0, 0, 0));
        refused("attempt of none", -6, x -> x.attempt(0, 0, 0));
        refused("write to none", -6, x -> x.write(0, 0, 0));
        refused("lists to none", -6, x -> x.lists(0, 0, 0, -1));
        refused("lists of none", -5, x -> x.lists(1, 0, 0, 19));
        refused("from of an empty one", -4, x -> x.from(3, 0, 0));
        refused("bollardsBy of an empty one", -4, x -> x.bollardsBy(3, 0, 0));
        refused("attempt of an empty one", -4, x -> x.attempt(3, 0, 0));
        refused("from of no street", -3, x -> x.from(1, 0, 0));
        refused("bollardsBy of no street", -3, x -> x.bollardsBy(1, 0, 0));
        refused("attempt of no street", -3, x -> x.attempt(1, 0, 0));
        refused("go where no end is", -12, x -> x.go(0, 3));
        refused("go a shut one", -12, x -> x.go(1, 4));
        refused("go where one may not", -13, x -> x.go(0, 1));
        refused("go below year 0", -14, x -> x.go(1, 3));
    }

    private static void severalRefusals() {
        says("(Of several that which the call tells first; all these ahead of NONE.)");
        OneWayPast x = busy();
        due("by: what, goer, street", x.by(9, 9, 9), -2);
        due("judge: what, missing", x.judge(0, 4), -2);
        due("judge: tray, what", x.judge(4, 4), -2);
        due("soonest: goer, year", x.soonest(2, 0, 20), -2);
        due("soonest: corner, year", x.soonest(0, 4, 20), -2);
        due("way: goer, year, i", x.way(2, 0, 20, -1), -2);
        due("way: corner, i", x.way(0, 4, 0, -1), -2);
        due("way: i, not so many", x.way(0, 0, 5, -1), -3);
        due("way: year, not so many", x.way(0, 0, -2, 50), -3);
        due("way: i, it can't be", x.way(0, 0, 19, -1), -3);
        due("rows: goer, n", x.rows(2, 0, 0, 13), -2);
        due("rows: corner, year, n", x.rows(0, 4, 20, 13), -2);
        due("bylaw: goer, what", x.bylaw(2, 2), -2);
        due("meetAt: what, they can't", x.meetAt(0, 1, 2), -2);
        due("shut: what, it is there", x.shut(0, 1, 2), -2);
        due("from: goer, missing", x.from(0, 2, 20), -2);
        due("from: missing, year", x.from(0, 0, 20), -6);
        due("from: none in it, year", x.from(3, 0, 20), -4);
        due("from: goer, none in it", x.from(3, 2, 0), -2);
        due("bollardsBy: goer, missing", x.bollardsBy(0, 2, 20), -2);
        due("bollardsBy: missing, year", x.bollardsBy(0, 0, 20), -6);
        due("bollardsBy: none in it, year", x.bollardsBy(3, 0, 20), -4);
        due("attempt: goer, missing", x.attempt(0, 2, 20), -2);
        due("attempt: missing, year", x.attempt(0, 0, 20), -6);
        due("attempt: none in it, year", x.attempt(3, 0, 20), -4);
        due("attempt: year, none", x.attempt(2, 0, 20), -3);
        tray(x, 3, 3, 9, 9, 9, 9, 9, 9, 9, 9, 9, 9, 9);
        due("from: too many, no street", x.from(3, 0, 0), -4);
        due("chance: what, n", x.chance(0, 0, 7, 2), -2);
        due("chance: corner, n", x.chance(0, 4, 7, 0), -2);
        due("mean: goer, n", x.mean(2, 7, 0), -2);
        due("mean: what, n", x.mean(0, 7, 2), -2);
        due("likeliest: goer, n", x.likeliest(2, 7), -2);
        due("numbers: sort, n", x.numbers(0, 4, 41), -2);
        due("numbers: tray, n", x.numbers(4, 0, 41), -2);
        due("write: tray, i", x.write(4, -1, 0), -2);
        due("write: missing, i", x.write(0, -1, 0), -6);
        due("lists: goer, missing", x.lists(0, 2, 0, 20), -2);
        due("lists: corner, missing", x.lists(0, 0, 4, 20), -2);
        due("lists: missing, year", x.lists(0, 0, 0, 20), -6);
        due("lists: missing, there is none", x.lists(0, 0, 0, 19), -6);
        due("go: no such goer, may", told("town 2;street 0 1;may:1=2;").go(0, 0), -11);
        due("go: no end, may, year", told("town 3;street 0 1 back 1;goer 2 year 0;may:1=2;").go(0, 0), -12);
        due("go: may, year", told("town 3;street 0 1 back 1;goer 0 year 0;may:1=2;").go(0, 0), -13);
    }

    // ---- Promises 1 to 8

    private static void theTown() {
        says("1 corner, no STREETS, no GOERS.");
        OneWayPast x = new OneWayPast();
        due("corners", x.count(0), 1);
        due("streets", x.count(1), 0);
        due("no street 0", x.street(0, 0), -2);
        due("goers", x.count(2), 0);
        due("no goer 0", x.goer(0, 0), -2);
    }

    private static void feeding() {
        says("Twenty bytes come behind those on THE TAPE, the highest of each int first: how many it has.");
        OneWayPast x = new OneWayPast();
        for (int place = 0; place < 20; place++) {
            OneWayPast y = new OneWayPast();
            StringBuilder blanks = new StringBuilder(" ".repeat(20));
            feed(y, blanks.toString());
            blanks.setCharAt(place, (char) 255);
            feed(y, blanks.toString());
            due("bytes", y.count(7), 40);
            due("a byte of 255 at " + place, y.town(40), -31);
            due("its place", y.fault(1), 20 + place);
        }
        due("of all bits", x.feed(-1, -1, -1, -1, -1), 20);
        due("of none", x.feed(0, 0, 0, 0, 0), 40);
        due("of the least", x.feed(MIN, MIN, MIN, MIN, MIN), 60);

        says("-5: it would have more than 900.");
        OneWayPast t = new OneWayPast();
        for (int i = 1; i <= 45; i++) {
            due("feed " + i, t.feed(0x746f776e, 0x20313b20, 0x20202020, 0x20202020, 0x20202020), 20 * i);
        }
        due("the 46th", t.feed(0, 0, 0, 0, 0), -5);
        due("the 47th", t.feed(0, 0, 0, 0, 0), -5);
        due("it has", t.count(7), 900);
        due("what was refused isn't on it", t.town(900), -32);
        due("the second town", t.fault(1), 20);
        due("empty: there is room again", t.feed(0, 0, 0, 0, 0), 20);
    }

    private static void reading() {
        says("The first n bytes of THE TAPE (which is empty then) are THE TOWN, nothing can be UNDONE: how many LINES (town, too; all stays with a FAULT).");
        OneWayPast n = new OneWayPast();
        feed(n, "town 1;bollards 7;  town 2;");
        due("all but the rest", n.town(18), 2);
        due("the rest is gone", n.count(7), 0);
        due("bollards", n.count(3), 7);
        feed(n, "town 2;");
        due("as many as there are", n.town(20), 1);
        due("of an empty tape", n.town(0), -32);
        due("of an empty tape", n.town(1), -3);
        n.bollards(3);
        feed(n, "town 3;");
        due("0 bytes of some", n.town(0), -32);
        due("empty then, too", n.count(7), 0);
        due("with a fault all stays", n.count(0) * 100 + n.count(6) * 10 + n.count(3), 213);
        due("with a fault undoing stays", n.undo(1) * 10 + n.count(3), 0);
        n.bollards(3);
        due("one line: town", tell(n, "town 3;"), 1);
        due("nothing can be undone", n.count(6), 0);
        due("nothing can be undone", n.undo(1), -3);
        due("bollards", n.count(3), 0);
        due("as many lines as there is room for", tell(n, "town 1;" + "may:0=0;".repeat(111)), 112);
        for (String bad : new String[] {"", "town 7;", "town 1;Z", "town 2;" + "street 0 1;".repeat(9)}) {
            OneWayPast a = busy();
            OneWayPast b = busy();
            a.town(0);
            b.town(0);
            feed(b, bad);
            due("a fault in <" + bad + ">", b.town(bad.length()) < -30 ? 1 : 0, 1);
            feed(a, bad);
            a.town(bad.length());
            alike("all stays", view(b), view(a));
            due("undone", b.undo(3), 0);
            due("as first told", at(b, 0) * 10000 + at(b, 1), 50210);
        }
    }

    private static void readingRefused() {
        says("-3: n is below 0 or above what there is (THE TAPE stays); -30 less the FAULT.");
        OneWayPast s = new OneWayPast();
        due("above none", s.town(1), -3);
        due("below 0", s.town(-1), -3);
        feed(s, "town 5;");
        due("above", s.town(21), -3);
        due("below", s.town(-1), -3);
        due("least", s.town(MIN), -3);
        due("greatest", s.town(MAX), -3);
        due("the tape stays", s.count(7), 20);
        due("it is read still", s.town(7), 1);
        due("its corners", s.count(0), 5);
        due("fault 1", tell(s, "!"), -31);
        due("fault 2", tell(s, "a"), -32);
        due("fault 3", tell(s, "town 0;"), -33);
        due("fault 4", tell(s, "town 1;" + "goer 0 year 0;".repeat(4)), -34);

        says("Of the latest town() that was read, what 0: its FAULT (0), 1: its place (NONE). NONE for others.");
        OneWayPast f = new OneWayPast();
        due("ahead of all", f.fault(0) * 10 + f.fault(1), -1);
        tell(f, "town 7;");
        due("kind", f.fault(0), 3);
        due("place", f.fault(1), 5);
        for (int what : NO_WHAT_OF_TWO) {
            due("others", f.fault(what), -1);
        }
        due("not read", f.town(-1), -3);
        due("of the latest that was read", f.fault(0) * 10 + f.fault(1), 35);
        f.image(0);
        tell(f, "town 1;");
        due("none", f.fault(0) * 10 + f.fault(1), -1);
        tell(f, "!");
        f.restore(0);
        due("kind 1 at 0, still", f.fault(0) * 10 + f.fault(1), 10);
    }

    private static void streetsAndGoers() {
        says("Of a STREET, what 0: BEGINNING, 1: END, 2: SIGN, 3: 50 and its years. -2.");
        OneWayPast st = told("town 6;street 5 0 back 9 sign 3;street 0 5 years 9;");
        due("back 9", st.street(0, 3), 41);
        due("years 9", st.street(1, 3), 59);
        due("beginnings", st.street(0, 0) * 10 + st.street(1, 0), 50);
        due("ends", st.street(0, 1) * 10 + st.street(1, 1), 5);
        due("signs", st.street(0, 2) * 10 + st.street(1, 2), 30);
        due("behind the last", st.street(2, 0), -2);
        due("below 0", st.street(-1, 0), -2);
        due("what", st.street(1, 4), -2);
        due("what", st.street(1, -1), -2);

        says("Of a GOER, what 0: CORNER, 1: YEAR, 2: STREETS it can GO now, as bits. -2.");
        OneWayPast go = told("town 2;" + "street 0 1;".repeat(8) + "goer 0 year 0;goer 1 year 19;");
        due("all eight", go.goer(0, 2), 255);
        due("none", go.goer(1, 2), 0);
        due("year 19", go.goer(1, 1), 19);
        due("without streets", told("town 2;goer 0 year 0;").goer(0, 2), 0);
        due("to corner 0 in year 0", told("town 2;street 1 0 back 9;goer 1 year 9;").goer(0, 2), 1);
        due("behind the last", go.goer(2, 0), -2);
        due("below 0", go.goer(-1, 2), -2);
        due("what", go.goer(0, 3), -2);
        due("what", go.goer(0, -1), -2);

        says("Why it can't GO a STREET (0: it can).");
        due("it can", go.why(0, 7), 0);
        due("no street 8", go.why(0, 8), 1);
        due("no street -1", go.why(0, -1), 1);
        due("no goer 2", go.why(2, 0), 1);
        due("no goer -1", go.why(-1, 0), 1);
        due("neither", new OneWayPast().why(0, 0), 1);
    }

    private static void byGoing() {
        says("By GOING a STREET, what 0: the CORNER, 1: the YEAR. -2: what; -5: it can't (for whatever reason).");
        OneWayPast by = told("town 3;street 1 0 back 9;street 1 2 sign 1;street 1 0;street 1 0 years 9;street 1 0 years 8;goer 1 year 9;goer 1 year 12;may:not street=2;");
        due("corner 0", by.by(0, 0, 0), 0);
        due("year 0", by.by(0, 0, 1), 0);
        due("the sign", by.by(0, 1, 0), -5);
        due("may", by.by(0, 2, 1), -5);
        due("the year", by.by(1, 4, 1), -5);
        due("no street", by.by(0, 5, 0), -5);
        due("no goer", by.by(2, 0, 1), -5);
        for (int what : NO_WHAT_OF_TWO) {
            due("what", by.by(0, 0, what), -2);
            due("what, and it can't", by.by(0, 1, what), -2);
        }
    }

    // ---- Promises 9 to 16

    private static void deeds() {
        says("To GO: the YEAR then. -11 to -14.");
        OneWayPast x = told("town 3;street 0 1 years 9 sign 2;street 0 1;street 0 1 years 9;street 1 2;goer 0 year 10;may:not street=1;");
        due("-11 goer", x.go(1, 0), -11);
        due("-11 street", x.go(0, 4), -11);
        due("-12", x.go(0, 3), -12);
        due("-13", x.go(0, 1), -13);
        due("year 19", x.go(0, 0), 19);
        due("year 10", x.go(0, 0), 10);
        x.put(0, 0, 11);
        due("-14", x.go(0, 2), -14);
        due("it stays", at(x, 0), 11);
        x.put(0, 1, 9);
        due("year 0", x.go(0, 0), 0);
    }

    private static void signsBollardsPuts() {
        says("To SIGN (0 to 3): what the SIGN was. -11.");
        OneWayPast s = told(FULL);
        int was = 2;
        for (int n = 0; n <= 3; n++) {
            due("sign " + n, s.sign(7, n), was);
            due("it is", s.street(7, 2), n);
            was = n;
        }
        due("4", s.sign(7, 4), -11);
        due("-1", s.sign(7, -1), -11);
        due("street 8", s.sign(8, 0), -11);
        due("street -1", s.sign(-1, 0), -11);
        due("no streets", new OneWayPast().sign(0, 0), -11);

        says("To have other BOLLARDS (0 to 9): how many there were. -11.");
        OneWayPast b = new OneWayPast();
        was = 0;
        for (int n = 9; n >= 0; n--) {
            due("bollards " + n, b.bollards(n), was);
            due("there are", b.count(3), n);
            was = n;
        }
        due("10", b.bollards(10), -11);
        due("-1", b.bollards(-1), -11);

        says("To PUT: 100 times the CORNER and the YEAR where it was. -11.");
        OneWayPast p = told(FULL);
        due("from 0 in 0", p.put(0, 5, 19), 0);
        due("from 5 in 19", p.put(0, 0, 0), 519);
        due("to where it is", p.put(0, 0, 0), 0);
        due("corner 6", p.put(0, 6, 0), -11);
        due("corner -1", p.put(0, -1, 0), -11);
        due("year 20", p.put(0, 0, 20), -11);
        due("year -1: NONE is none", p.put(0, 0, -1), -11);
        due("goer 3", p.put(3, 0, 0), -11);
        due("goer -1", p.put(-1, 0, 0), -11);
        due("another corner there isn't", told("town 5;goer 0 year 0;").put(0, 5, 0), -11);
    }

    private static void undoing() {
        says("n calls (1 to 10) are UNDONE: how many still can be. -3: n, more than can be.");
        OneWayPast u = told(FULL);
        due("of none", u.undo(1), -3);
        for (int i = 0; i < 12; i++) {
            due("0", u.undo(0), -3);
            due("-1", u.undo(-1), -3);
            due("11", u.undo(11), -3);
            due("one more than can be", u.undo(Math.min(i, 10) + 1), -3);
            u.bollards(i % 10);
        }
        due("ten", u.undo(10), 0);
        due("as behind the second", u.count(3), 1);
        due("no more", u.undo(1), -3);
    }

    private static void judging() {
        says("DEEDS, judged as if done, what 0: the first place that can't be (NONE), 1: why (0), 2: all YEARS of GOERS together then, 3: CORNERS where some are then, as bits. -2: the TRAY, what; -6.");
        OneWayPast j = told(FULL);
        due("missing", j.judge(3, 0), -6);
        due("tray 4", j.judge(4, 0), -2);
        due("tray -1", j.judge(-1, 0), -2);
        due("what 4", j.judge(3, 4), -2);
        due("what -1", j.judge(3, -1), -2);
        tray(j, 3, 1);
        due("none told: place", j.judge(3, 0), -1);
        due("none told: why", j.judge(3, 1), 0);
        due("none told: years", j.judge(3, 2), 26);
        due("none told: corners", j.judge(3, 3), 0b110001);
        long[] forty = fortyPuts();
        tray(j, 3, 1, forty);
        due("forty: place", j.judge(3, 0), -1);
        due("forty: years", j.judge(3, 2), 57);
        due("forty: corners", j.judge(3, 3), 0b101001);
        j.write(3, 39, 210);
        due("the last can't be", j.judge(3, 0), 39);
        due("why", j.judge(3, 1), 1);
        j.write(3, 0, -1);
        due("the first can't be", j.judge(3, 0), 0);
        due("as it is", j.judge(3, 2), 26);
        due("as it is", j.judge(3, 3), 0b110001);
        due("none told behind one that can't be: place", tray(j, 2, 1).judge(2, 0), -1);
        due("none told behind one that can't be: why", j.judge(2, 1), 0);
        due("two at one corner: once", tray(j, 2, 1, 1500).judge(2, 3), 0b110000);
        due("nothing is done", j.count(5) * 10 + j.count(6), 260);
        tray(new OneWayPast(), 0, 0);
        due("without goers: years", tray(new OneWayPast(), 0, 0).judge(0, 2), 0);
        due("without goers: corners", tray(new OneWayPast(), 0, 0).judge(0, 3), 0);
        OneWayPast whys = told("town 3;street 0 1 back 1;street 1 2;street 0 1;goer 0 year 0;may:not street=2;");
        due("why 2", tray(whys, 0, 0, 1).judge(0, 1), 2);
        due("why 3", tray(whys, 0, 0, 2).judge(0, 1), 3);
        due("why 4", tray(whys, 0, 0, 0).judge(0, 1), 4);
        due("by what was judged done ahead", tray(whys, 0, 1, 1101, 1).judge(0, 0), -1);
    }

    private static long[] fortyPuts() {
        long[] forty = new long[40];
        for (int i = 0; i < 40; i++) {
            forty[i] = i % 2 == 0 ? 1019 : 3319;
        }
        return forty;
    }

    private static void performing() {
        says("They are done, till one can't be: how many. -2; -6.");
        OneWayPast d = told(FULL);
        due("missing", d.perform(0), -6);
        due("tray 4", d.perform(4), -2);
        due("tray -1", d.perform(-1), -2);
        due("none told", tray(d, 0, 1).perform(0), 0);
        due("forty", tray(d, 0, 1, fortyPuts()).perform(0), 40);
        d.write(0, 39, 210);
        due("the last can't be", d.perform(0), 39);
        d.write(0, 1, 30);
        d.write(0, 0, 1101);
        due("the second can't be", d.perform(0), 1);
        due("the first is done", at(d, 0), 101);
        due("those behind aren't", at(d, 2), 319);
        d.write(0, 0, 4000);
        due("the first can't be", d.perform(0), 0);
        due("three calls did some", d.count(6), 3);
    }

    private static void days() {
        says("A DAY: how many could be. -3: how many times.");
        OneWayPast day = told(FULL);
        due("0", day.day(1, 0), -3);
        due("41", day.day(1, 41), -3);
        due("-1", day.day(1, -1), -3);
        due("none was done", day.count(6), 0);
        OneWayPast twin = told(FULL);
        due("1", day.day(5, 1), drawnByCalls(twin, draws(5), 1));
        due("40", day.day(6, 40), drawnByCalls(twin, draws(6), 40));
        due("as by calls", day.count(5) * 1000 + day.count(4), twin.count(5) * 1000 + twin.count(4));
        int onlyBollards = 0;
        for (int i = 0, at = 0; i < 40; i++) {
            boolean bollards = draws(9)[at] % 6 == 5;
            onlyBollards += bollards ? 1 : 0;
            at += bollards ? 2 : 3;
        }
        due("in a town without goers and streets only bollards could be", new OneWayPast().day(9, 40), onlyBollards);
    }

    // ---- Promises 17 to 22

    private static void coming() {
        says("COMING to a CORNER in a YEAR (NONE: any): how many GOINGS. NONE: it can't be; -2: the GOER, the CORNER; -3: the YEAR.");
        OneWayPast x = told("town 2;street 0 1 sign 2;goer 0 year 0;shifts:1;");
        for (int year = 0; year < 20; year++) {
            due("year " + year, x.soonest(0, year % 2, year), year);
            due("never", x.soonest(0, 1 - year % 2, year), -1);
        }
        due("any", x.soonest(0, 1, -1), 1);
        due("where it is, any", x.soonest(0, 0, -1), 0);
        due("year 20", x.soonest(0, 0, 20), -3);
        due("year -2", x.soonest(0, 0, -2), -3);
        due("corner 2", x.soonest(0, 2, 0), -2);
        due("corner -1: NONE is none", x.soonest(0, -1, 0), -2);
        due("goer 1", x.soonest(1, 0, 0), -2);
        due("goer -1", x.soonest(-1, 0, 0), -2);
        due("without streets", told("town 2;goer 0 year 0;").soonest(0, 1, -1), -1);
    }

    private static void ways() {
        says("The i-th STREET of it. NONE: not so many, it can't be; -2; -3: the YEAR, i is below 0.");
        OneWayPast w = told("town 3;street 1 2;street 0 1 years 1;goer 0 year 18;");
        due("i 0", w.way(0, 2, 19, 0), 1);
        due("i 1", w.way(0, 2, 19, 1), 0);
        due("i 2", w.way(0, 2, 19, 2), -1);
        due("the greatest i", w.way(0, 2, 19, MAX), -1);
        due("i -1", w.way(0, 2, 19, -1), -3);
        due("the least i", w.way(0, 2, 19, MIN), -3);
        due("where it is", w.way(0, 0, 18, 0), -1);
        due("it can't be", w.way(0, 2, 18, 0), -1);
        OneWayPast zero = told("town 4;street 3 2;street 2 0;street 0 1;goer 3 year 0;");
        due("to corner 0 in year 0", zero.way(0, 0, 0, 0) * 10 + zero.way(0, 0, 0, 1), 1);
        due("through corner 0 in year 0", zero.way(0, 1, -1, 0) * 100 + zero.way(0, 1, -1, 1) * 10 + zero.way(0, 1, -1, 2), 12);
        due("year 20", w.way(0, 2, 20, 0), -3);
        due("year -2", w.way(0, 2, -2, 0), -3);
        due("corner 3", w.way(0, 3, -1, 0), -2);
        due("goer 1", w.way(1, 2, -1, 0), -2);
    }

    private static void rows() {
        says("How many ROWS of just n GOINGS (0 to 12) there are behind which it is there then. -2; -3: the YEAR, n.");
        OneWayPast r = told("town 2;" + "street 0 1 sign 2;".repeat(8) + "goer 0 year 19;");
        due("n 0", r.rows(0, 0, 19, 0), 1);
        due("n 0, another year", r.rows(0, 0, 18, 0), 0);
        due("n 0, another corner", r.rows(0, 1, -1, 0), 0);
        due("n 1", r.rows(0, 1, -1, 1), 8);
        due("n 11", r.rows(0, 1, -1, 11), 8589934592L);
        due("n 12", r.rows(0, 0, -1, 12), 68719476736L);
        due("n 12 in its year", r.rows(0, 0, 19, 12), 68719476736L);
        due("n 12, the other corner", r.rows(0, 1, -1, 12), 0);
        due("n 13", r.rows(0, 0, -1, 13), -3);
        due("n -1", r.rows(0, 0, -1, -1), -3);
        due("year 20", r.rows(0, 0, 20, 0), -3);
        due("year -2", r.rows(0, 0, -2, 0), -3);
        due("corner 2", r.rows(0, 2, 0, 0), -2);
        due("goer 1", r.rows(1, 0, 0, 0), -2);
        due("without streets", told("town 2;goer 0 year 0;").rows(0, 0, -1, 1), 0);
    }

    private static void whens() {
        says("YEARS in which it can be at a CORNER (now, too), as bits. -2.");
        OneWayPast r = told("town 2;" + "street 0 1 sign 2;".repeat(8) + "goer 0 year 19;");
        OneWayPast x = told("town 2;street 0 1 sign 2;goer 0 year 0;shifts:1;");
        due("now", r.when(0, 0), 1 << 19);
        due("all years", told("town 2;street 0 1 sign 2;street 0 1;goer 0 year 0;shifts:if street=1 then 0 else 1 end;").when(0, 1), 0xfffff);
        due("every other one", x.when(0, 0), 0x55555);
        due("never", told("town 2;goer 0 year 0;").when(0, 1), 0);
        due("corner 2", r.when(0, 2), -2);
        due("corner -1", r.when(0, -1), -2);
        due("goer 1", r.when(1, 0), -2);

        says("The earliest YEAR (what 0), the latest one (what 1) to which it can come anywhere. -2: the GOER, what.");
        due("0", x.bound(0, 0), 0);
        due("19", x.bound(0, 1), 19);
        OneWayPast back = told("town 2;street 0 1 back 1;street 1 0 back 1;goer 0 year 19;");
        due("back to 0", back.bound(0, 0), 0);
        due("not beyond 19", back.bound(0, 1), 19);
        due("nowhere: as now", told("town 2;goer 0 year 7;").bound(0, 0), 7);
        due("nowhere: as now", told("town 2;goer 0 year 7;").bound(0, 1), 7);
        for (int what : NO_WHAT_OF_TWO) {
            due("what", x.bound(0, what), -2);
        }
        due("goer 1", x.bound(1, 0), -2);

        says("CORNERS to which it can come, as bits (where it is, too). -2.");
        due("where it is", told("town 6;goer 5 year 7;").reach(0), 32);
        due("all six", told(FULL).reach(0), 63);
        due("in two years: once", told("town 2;street 0 1 years 1;street 0 1 years 2;goer 0 year 0;").reach(0), 3);
        due("goer 3", told(FULL).reach(3), -2);
        due("goer -1", told(FULL).reach(-1), -2);
    }

    // ---- Promises 23 to 27

    private static void meetingsAndRings() {
        says("MEETING: how many GOINGS together. NONE: they can't; -2: GOERS, both one.");
        OneWayPast x = told("town 2;street 0 1 sign 2;goer 0 year 0;goer 1 year 19;goer 0 year 19;");
        due("never in one year", x.meet(0, 1), -1);
        due("one going", x.meet(1, 2), 1);
        x.put(2, 1, 19);
        due("no going", x.meet(1, 2), 0);
        due("both one", x.meet(0, 0), -2);
        due("both one that isn't", x.meet(3, 3), -2);
        due("goer 3", x.meet(0, 3), -2);
        due("goer 3", x.meet(3, 0), -2);
        due("goer -1", x.meet(-1, 0), -2);

        says("Where they do, what 0: the CORNER, 1: the YEAR. NONE: they can't; -2: also what.");
        due("corner", x.meetAt(1, 2, 0), 1);
        due("year", x.meetAt(1, 2, 1), 19);
        due("they can't", x.meetAt(0, 1, 0), -1);
        due("they can't", x.meetAt(0, 1, 1), -1);
        for (int what : NO_WHAT_OF_TWO) {
            due("what", x.meetAt(1, 2, what), -2);
            due("what, they can't", x.meetAt(0, 1, what), -2);
        }
        due("goer 3", x.meetAt(0, 3, 0), -2);
        due("both one", x.meetAt(0, 0, 0), -2);
        x.put(1, 0, 0);
        due("corner 0", x.meetAt(0, 1, 0), 0);
        due("year 0", x.meetAt(0, 1, 1), 0);
    }

    private static void rings() {
        says("The fewest GOINGS of a RING from its CORNER in its YEAR to the same again. NONE: there is no RING; -2.");
        due("two, the fewest that can be", told("town 2;street 0 1 sign 2;goer 0 year 0;").ring(0), 2);
        due("a shorter one farther on", told("town 4;street 0 1;street 1 2;street 2 0;street 2 3 sign 2;goer 0 year 0;").ring(0), 2);
        due("none", told("town 2;street 0 1;goer 0 year 0;").ring(0), -1);
        due("without streets", told("town 2;goer 0 year 0;").ring(0), -1);
        due("goer 1", told("town 2;street 0 1 sign 2;goer 0 year 0;").ring(1), -2);
        // Round and round, a year more each time, and from the last spot of all 120 to the first.
        OneWayPast all = told("town 6;street 5 0;street 0 1;street 1 2;street 2 3;street 3 4;street 4 5;street 5 0;goer 0 year 0;"
                + "shifts : if street = 6 then 1 else if street = 0 then 0 - 19 else 0 end end;may : street > 0 or year = 19;");
        due("the most that can be", all.ring(0), 120);
        due("the farthest", all.soonest(0, 5, 19), 119);
    }

    private static void bylaws() {
        says("BY-LAWS: how many there are. -2.");
        due("all 256", told("town 2;" + "street 0 1 years 1;".repeat(8) + "goer 0 year 0;may:against=0;").laws(0), 256);
        due("one", told("town 2;goer 0 year 0;").laws(0), 1);
        due("two", told("town 2;" + "street 0 1 sign 2;".repeat(8) + "goer 0 year 0;").laws(0), 2);
        due("a ring behind a dead end", told("town 3;street 0 1;street 0 2;street 0 2;goer 0 year 0;").laws(0), 4);
        due("goer 1", told("town 2;goer 0 year 0;").laws(1), -2);
        due("goer -1", told("town 2;goer 0 year 0;").laws(-1), -2);

        says("Those by which the fewest STREETS have another SIGN than now, of like ones the least by bits, what 0: how many STREETS, 1: the SIGNS, as bits. NONE: there are none; -2: the GOER, what.");
        OneWayPast v = told("town 2;" + "street 0 1 sign 2;".repeat(8) + "goer 0 year 0;");
        due("all eight", v.bylaw(0, 0), 8);
        due("least by bits", v.bylaw(0, 1), 0);
        v.sign(7, 1);
        due("fewest ahead of least", v.bylaw(0, 1), 255);
        due("seven", v.bylaw(0, 0), 7);
        v.sign(6, 0);
        due("seven either way", v.bylaw(0, 0), 7);
        due("the least of both", v.bylaw(0, 1), 0);
        due("none", told("town 2;goer 0 year 0;").bylaw(0, 0), 0);
        for (int what : NO_WHAT_OF_TWO) {
            due("what", v.bylaw(0, what), -2);
        }
        due("goer 1", v.bylaw(1, 0), -2);
        // There always are some: from each street's lesser corner to its greater one nobody goes round.
        OneWayPast n = told("town 3;street 0 1;street 0 1;street 1 2;street 1 2;street 2 0;street 2 0;goer 0 year 0;");
        due("two of the six, against", n.bylaw(0, 0), 2);
        due("two of the six, against", n.bylaw(0, 1), 3);
    }

    // ---- Promises 28 to 32

    private static void shuttingAndTook() {
        says("SHUTTING, what 0: how many, 1: which, as bits. NONE: none do (it is there); -2: the GOER, the CORNER, what.");
        OneWayPast x = told("town 3;" + "street 0 1;".repeat(7) + "street 1 2;goer 0 year 0;");
        due("seven", x.shut(0, 1, 0), 7);
        due("which", x.shut(0, 1, 1), 127);
        due("one", x.shut(0, 2, 1), 128);
        due("it is there", x.shut(0, 0, 0), -1);
        due("it is there", x.shut(0, 0, 1), -1);
        due("it can't come anyhow", told("town 2;street 1 0;goer 0 year 0;").shut(0, 1, 0), 0);
        due("it can't come anyhow", told("town 2;street 1 0;goer 0 year 0;").shut(0, 1, 1), 0);
        for (int what : NO_WHAT_OF_TWO) {
            due("what", x.shut(0, 1, what), -2);
            due("what, it is there", x.shut(0, 0, what), -2);
        }
        due("corner 3", x.shut(0, 3, 0), -2);
        due("corner -1", x.shut(0, -1, 0), -2);
        due("goer 1", x.shut(1, 0, 0), -2);

        says("STREETS that aren't SHUT, without each of which alone (SHUT) it couldn't COME to a CORNER in any YEAR, as bits (0: it can't anyhow). -2.");
        due("street 7", x.needed(0, 2), 128);
        due("none alone", x.needed(0, 1), 0);
        due("it is there", x.needed(0, 0), 0);
        due("it can't anyhow", told("town 2;street 1 0;goer 0 year 0;").needed(0, 1), 0);
        due("it can't anyhow, all shut", told("town 2;street 0 1 sign 3;goer 0 year 0;").needed(0, 1), 0);
        due("a shut one isn't", told("town 2;street 0 1 sign 3;street 0 1;goer 0 year 0;").needed(0, 1), 2);
        due("in any year", told("town 2;street 0 1 years 1;street 0 1;goer 0 year 0;").needed(0, 1), 0);
        due("corner 3", x.needed(0, 3), -2);
        due("goer 1", x.needed(1, 0), -2);
    }

    private static void rowsTaken() {
        says("TOOK in a TRAY (1 to 10 STREETS): a ROW of a GOER behind which it is in a told YEAR: CORNERS at which it can be now (in its YEAR), BOLLARDS 0 to 9 there can be, by which it can GO so and is in that YEAR then.");
        OneWayPast t = told("town 2;street 0 1 sign 2;goer 0 year 0;bollards 0;shifts:if against=0 then bollards else 0-bollards end;");
        tray(t, 0, 0, 0);
        due("one", t.from(0, 0, 0), 3);
        due("no bollards", t.bollardsBy(0, 0, 0), 1);
        due("nine bollards", t.bollardsBy(0, 0, 9), 1 << 9);
        due("ten there can't be", t.bollardsBy(0, 0, 10), 0);
        tray(t, 0, 3, 0, 0, 0, 0, 0, 0, 0, 0, 0, 0);
        due("ten", t.from(0, 0, 0), 3);
        due("all ten numbers of bollards", t.bollardsBy(0, 0, 0), 1023);
        tray(t, 0, 3, 0, 0, 0, 0, 0, 0, 0, 0, 0, 0, 0);
        due("eleven", t.from(0, 0, 0), -4);
        tray(t, 0, 3);
        due("none", t.from(0, 0, 0), -4);
        due("nothing is changed", t.count(3) * 100 + t.count(6) * 10 + t.goer(0, 0), 0);
        OneWayPast between = told("town 2;street 0 1;goer 0 year 0;bollards 4;shifts:bollards;");
        due("a search ahead", between.when(0, 1), 1 << 4);
        due("others are tried", tray(between, 0, 0, 0).bollardsBy(0, 0, 9), 1 << 9);
        due("a street is looked for", between.attempt(0, 0, 9), 0);
        due("the same search behind", between.when(0, 1), 1 << 4);
        between.bollards(5);
        due("by other bollards", between.when(0, 1), 1 << 5);
        between.undo(1);
        due("as ahead", between.when(0, 1), 1 << 4);

        says("TOOK: CORNERS, as bits. -2: the TRAY, the GOER; -6; -4: not 1 to 10 numbers; -3: one is no STREET, the YEAR (0 to 19).");
        took("from", (o, a) -> o.from(a[0], a[1], a[2]));
        OneWayPast all = told("town 6;street 0 1 sign 2;street 2 3 sign 2;street 4 5 sign 2;goer 0 year 19;");
        tray(all, 0, 0, 2);
        due("both ends", all.from(0, 0, 19), 48);
        due("year 0", all.from(0, 0, 0), 0);

        says("BOLLARDS, as bits. As from().");
        took("bollardsBy", (o, a) -> o.bollardsBy(a[0], a[1], a[2]));
    }

    private static void attempts() {
        says("The STREET to GO next: the greatest number of these BOLLARDS by which it would be in the same YEAR then (in its YEAR as now, if it can't) is least, the first. NONE: there are none; as from().");
        took("attempt", (o, a) -> o.attempt(a[0], a[1], a[2]));
        OneWayPast at = told("town 2;street 0 1;street 0 1;street 0 1;street 1 0;goer 0 year 3;"
                + "shifts:if street=0 then 0 else if street=1 then bollards else bollards*2 end end;");
        tray(at, 0, 0, 0);
        due("all ten", at.bollardsBy(0, 0, 3), 1023);
        due("each in a year of its own, the first such", at.attempt(0, 0, 3), 1);
        due("none", at.attempt(0, 0, 4), -1);
        tray(at, 0, 0, 1);
        due("one is left: the first street", at.attempt(0, 0, 12), 0);
        OneWayPast same = told("town 2;street 0 1;street 0 1 years 1;street 0 1 years 2;goer 0 year 3;may:street=0 or street=1 and bollards<4 or street=2 and bollards<5;");
        tray(same, 0, 0, 0);
        // By 1 four go on and six stay; by 2 five and five.
        due("in its year as now, if it can't", same.attempt(0, 0, 3), 2);
        // 0 and 1 are told: street 0 doesn't tell them apart, street 1 does.
        OneWayPast two = told("town 2;street 0 1;street 0 1;street 0 1;goer 0 year 3;shifts:if street=1 then bollards else 0 end;may:street<2 or bollards<2;");
        tray(two, 0, 0, 2);
        due("no bollards and one", two.bollardsBy(0, 0, 3), 3);
        due("no bollards are one of these", two.attempt(0, 0, 3), 1);
        OneWayPast back = told("town 2;street 0 1;street 0 1 years 1;street 0 1;goer 0 year 3;may:not street=2 or bollards<5;");
        tray(back, 0, 0, 0);
        due("those that stay and those that go in no years are alike", back.attempt(0, 0, 3), 0);
    }

    private interface Took {
        int of(OneWayPast x, int[] trayGoerYear);
    }

    private static int took(OneWayPast x, Took call, int tray, int g, int year) {
        return call.of(x, new int[] {tray, g, year});
    }

    private static void took(String name, Took call) {
        OneWayPast x = told("town 2;street 0 1 sign 2;street 0 1 sign 2;goer 0 year 0;");
        due(name + " missing", took(x, call, 0, 0, 0), -6);
        due(name + " tray 4", took(x, call, 4, 0, 0), -2);
        due(name + " tray -1", took(x, call, -1, 0, 0), -2);
        due(name + " goer 1", took(x, call, 0, 1, 0), -2);
        due(name + " goer -1", took(x, call, 0, -1, 0), -2);
        tray(x, 0, 3);
        due(name + " none in it", took(x, call, 0, 0, 0), -4);
        tray(x, 0, 3, 1);
        due(name + " one in it", took(x, call, 0, 0, 0) >= 0 ? 1 : 0, 1);
        due(name + " year 19", took(x, call, 0, 0, 19) >= -1 ? 1 : 0, 1);
        due(name + " year 20", took(x, call, 0, 0, 20), -3);
        due(name + " year -1: NONE is none", took(x, call, 0, 0, -1), -3);
        for (long none : new long[] {2, 8, -1, 1L << 32, -(1L << 32), Long.MIN_VALUE, Long.MAX_VALUE}) {
            tray(x, 0, 3, none);
            due(name + " no street " + none, took(x, call, 0, 0, 0), -3);
            tray(x, 0, 3, 0, 0, 0, 0, 0, 0, 0, 0, 0, none);
            due(name + " no street at last " + none, took(x, call, 0, 0, 0), -3);
        }
        tray(x, 0, 3, 0, 1, 0, 1, 0, 1, 0, 1, 0, 1);
        due(name + " ten", took(x, call, 0, 0, 0) >= 0 ? 1 : 0, 1);
        tray(x, 0, 3, 0, 1, 0, 1, 0, 1, 0, 1, 0, 1, 0);
        due(name + " eleven", took(x, call, 0, 0, 0), -4);
        x.numbers(0, 0, 40);
        due(name + " forty", took(x, call, 0, 0, 0), -4);
    }

    // ---- Promises 33 to 37

    private static void turnsAndChances() {
        says("FORCING: within how many turns, at fewest (0: it is there). NONE: not within 3; -2.");
        OneWayPast x = told("town 5;street 0 1;street 1 2;street 1 2;street 2 3;street 2 3;street 2 3;street 3 4;goer 0 year 0;goer 1 year 0;");
        due("0", x.forces(0, 0), 0);
        due("1", x.forces(0, 1), 1);
        due("2", x.forces(0, 2), 2);
        due("3", x.forces(0, 3), 3);
        due("not by one street at the end", x.forces(1, 4), -1);
        due("corner 5", x.forces(0, 5), -2);
        due("corner -1", x.forces(0, -1), -2);
        due("goer 2", x.forces(2, 0), -2);
        // By years: street 3 and on can be gone in one year alone, to which one must go up and down.
        String late = "town 3;street 0 1 sign 2;street 0 1 sign 2;street 0 1 sign 2;"
                + "street 1 2;street 1 2;street 1 2;street 1 2;street 1 2;shifts:1;may:street<3 or year=";
        due("in the third turn", told(late + "2;goer 1 year 0;").forces(0, 2), 3);
        due("in the second turn", told(late + "1;goer 0 year 0;").forces(0, 2), 2);
        due("in the fourth turn: not within 3", told(late + "3;goer 0 year 0;").forces(0, 2), -1);

        says("The first STREET by which it does within as few (99: none, behind all). NONE: it doesn't, it is there; -2.");
        due("it is there", x.best(0, 0), -1);
        due("it doesn't", x.best(1, 4), -1);
        due("first street", x.best(1, 2), 1);
        due("three turns", x.best(0, 3), 0);
        due("the last of eight", told("town 3;" + "street 1 2;".repeat(7) + "street 0 2;goer 0 year 0;").best(0, 2), 7);
        due("the first of like ones", told("town 3;" + "street 1 2;".repeat(6) + "street 0 2;street 0 2;goer 0 year 0;").best(0, 2), 6);
        due("as few, not the first that does", told("town 3;street 0 1;street 1 2;street 1 2;street 0 2;goer 0 year 0;").best(0, 2), 3);
        due("corner 5", x.best(0, 5), -2);
        due("goer 2", x.best(2, 0), -2);
    }

    private static void chances() {
        says("CHANCE, what 0: the number above, 1: below. -2: the GOER, the CORNER, what; -3: n.");
        OneWayPast c = told("town 2;street 0 1;" + "street 0 1 sign 3;".repeat(7) + "goer 0 year 0;");
        due("n 0, where it is", 10 * c.chance(0, 0, 0, 0) + c.chance(0, 0, 0, 1), 11);
        due("n 0, elsewhere", 10 * c.chance(0, 1, 0, 0) + c.chance(0, 1, 0, 1), 1);
        due("n 6: above", c.chance(0, 1, 6, 0), 262144 - 117649);
        due("n 6: below", c.chance(0, 1, 6, 1), 262144);
        due("n 7", c.chance(0, 1, 7, 0), -3);
        due("n -1", c.chance(0, 1, -1, 0), -3);
        due("corner 2", c.chance(0, 2, 1, 0), -2);
        due("corner -1", c.chance(0, -1, 1, 0), -2);
        due("goer 1", c.chance(1, 0, 1, 0), -2);
        for (int what : NO_WHAT_OF_TWO) {
            due("what", c.chance(0, 0, 1, what), -2);
        }
    }

    private static void means() {
        says("In which YEAR it is on the mean then, what 0: above, 1: below, in lowest terms. -2; -3.");
        OneWayPast m = told("town 2;street 0 1 years 1;" + "street 0 1 sign 3;".repeat(7) + "goer 0 year 0;goer 0 year 18;goer 0 year 19;");
        due("year 0", 10 * m.mean(0, 0, 0) + m.mean(0, 0, 1), 1);
        due("an eighth", 10 * m.mean(0, 1, 0) + m.mean(0, 1, 1), 18);
        due("above, behind six", m.mean(0, 6, 0), 144495);
        due("below, behind six", m.mean(0, 6, 1), 262144);
        due("from 18", m.mean(1, 6, 0), 18 * 262144 + 144495);
        due("from 19, beyond which it can't go", 10 * m.mean(2, 6, 0) + m.mean(2, 6, 1), 191);
        due("in lowest terms", 10 * told("town 2;street 0 1 years 4;street 0 1 sign 3;goer 0 year 0;").mean(0, 1, 0)
                + told("town 2;street 0 1 years 4;street 0 1 sign 3;goer 0 year 0;").mean(0, 1, 1), 21);
        due("n 7", m.mean(0, 7, 0), -3);
        due("n -1", m.mean(0, -1, 0), -3);
        due("goer 3", m.mean(3, 1, 0), -2);
        for (int what : NO_WHAT_OF_TWO) {
            due("what", m.mean(0, 1, what), -2);
        }

        says("The CORNER where it is likeliest then, the first. -2; -3.");
        OneWayPast l = told("town 6;street 5 4;street 5 3;goer 5 year 0;");
        due("n 0", l.likeliest(0, 0), 5);
        due("like ones: the first", l.likeliest(0, 1), 3);
        due("n 6", l.likeliest(0, 6), 3);
        due("n 7", l.likeliest(0, 7), -3);
        due("n -1", l.likeliest(0, -1), -3);
        due("goer 1", l.likeliest(1, 0), -2);
        due("goer -1", l.likeliest(-1, 0), -2);
        due("half and half", told("town 2;street 1 0;street 1 0 sign 3;goer 1 year 0;").likeliest(0, 1), 0);
        due("without streets", told("town 6;goer 5 year 0;").likeliest(0, 6), 5);
    }

    // ---- Promises 38 to 43

    private static void traysAndImages() {
        says("TRAYS 0 to 3 are MISSING at first, or have 0 to 40 numbers of 8 bits (sort 0), 16 (1), 32 (2), 64 (3).");
        OneWayPast x = new OneWayPast();
        for (int tray = 0; tray < 4; tray++) {
            due("missing", x.perform(tray), -6);
            due("made", x.numbers(tray, tray, 40), 0);
            due("there", x.perform(tray), 0);
        }
        int[] bits = {8, 16, 32, 64};
        for (int sort = 0; sort < 4; sort++) {
            long least = -1L << bits[sort] - 1;
            long most = ~least;
            due("least", x.write(sort, 39, least), least);
            due("most", x.write(sort, 39, most), most);
            due("one below the least", x.write(sort, 39, least - 1), most);
            due("one above the most", x.write(sort, 39, most + 1), least);
            due("less one", x.write(sort, 39, -1), -1);
            due("two less than all bits", x.write(sort, 39, (most << 1) | 1), -1);
        }

        says("A TRAY has n numbers of a sort, all 0 (in place of another one): 0. -2: no such TRAY, sort; -3, and the TRAY stays: n is below 0 or above 40.");
        OneWayPast n = told("town 2;street 0 1 sign 2;goer 0 year 3;");
        due("n 0", n.numbers(0, 0, 0), 0);
        due("none in it", n.write(0, 0, 0), -7);
        due("n 40", n.numbers(0, 0, 40), 0);
        due("the last", n.write(0, 39, 5), 5);
        due("n 41", n.numbers(0, 1, 41), -3);
        due("n -1", n.numbers(0, 1, -1), -3);
        due("it stays: of 8 bits", n.write(0, 38, 255), -1);
        due("it stays: of 40", n.write(0, 39, 6), 6);
        due("tray 4", n.numbers(4, 0, 0), -2);
        due("tray -1", n.numbers(-1, 0, 0), -2);
        due("sort 4", n.numbers(0, 4, 0), -2);
        due("sort -1", n.numbers(0, -1, 0), -2);
        due("missing still", n.numbers(1, 0, 41) * 10 + n.perform(1), -36);
        tray(n, 2, 1, 205, 1019, 210);
        due("in place of it", n.numbers(2, 1, 2), 0);
        due("all 0", n.perform(2), 2);
        due("there and back", at(n, 0), 3);
        due("no such number any more", n.write(2, 2, 0), -7);
        due("of another sort", n.numbers(2, 0, 2) * 1000 + n.write(2, 0, 205), 205 - 256);
        due("more again", n.numbers(2, 2, 3), 0);
        due("all 0 again", n.perform(2), 3);

        says("Number i of a TRAY is v, cut to its sort: as it is there. -2: no such TRAY; -6; -7.");
        due("the first", n.write(2, 0, 1L << 31), MIN);
        due("the last", n.write(2, 2, (1L << 32) + 7), 7);
        due("behind it", n.write(2, 3, 0), -7);
        due("ahead of it", n.write(2, -1, 0), -7);
        due("far", n.write(2, MAX, 0), -7);
        due("far", n.write(2, MIN, 0), -7);
        due("missing", n.write(3, 0, 0), -6);
        due("tray 4", n.write(4, 0, 0), -2);
        due("tray -1", n.write(-1, 0, 0), -2);
        due("as it is there", tray(told(FULL), 0, 0, 100).write(0, 0, 256 + 103), 103);
        OneWayPast cut = told(FULL);
        cut.numbers(0, 0, 1);
        cut.write(0, 0, 256 + 103);
        due("cut, not what was told", cut.judge(0, 0), -1);
        due("cut, not what was told", cut.perform(0) * 10 + cut.street(0, 2), 13);
    }

    private static void lists() {
        says("STREETS of COMING to a CORNER in a YEAR come into a TRAY, as far as it has places: how many. -2: the TRAY, the GOER, the CORNER; -6; -3: the YEAR; -5: there is none.");
        OneWayPast l = told("town 4;street 3 0;street 2 3;street 1 2;street 0 1;goer 0 year 0;");
        due("missing", l.lists(0, 0, 3, -1), -6);
        due("tray 4", l.lists(4, 0, 3, -1), -2);
        due("tray -1", l.lists(-1, 0, 3, -1), -2);
        for (int places = 0; places <= 4; places++) {
            l.numbers(0, 3, places);
            due("places " + places, l.lists(0, 0, 3, -1), Math.min(places, 3));
        }
        // 3, 2, 1 came, the fourth stays 0: from corner 0 round to itself.
        due("what came", l.from(0, 0, 0), 1);
        l.write(0, 3, 3);
        due("it stays behind what comes", l.lists(0, 0, 3, 0) * 10 + l.from(0, 0, 0), 30);
        due("none: it is there", l.lists(0, 0, 0, -1), 0);
        due("there is none", l.lists(0, 0, 3, 1), -5);
        due("there is none, in an empty tray", tray(l, 1, 0).lists(1, 0, 3, 1), -5);
        due("year 20", l.lists(0, 0, 3, 20), -3);
        due("year -2", l.lists(0, 0, 3, -2), -3);
        due("goer 1", l.lists(0, 1, 3, -1), -2);
        due("corner 4", l.lists(0, 0, 4, -1), -2);
        due("corner -1", l.lists(0, 0, -1, -1), -2);
        OneWayPast far = told("town 2;street 0 1 sign 2;" + "street 0 1 sign 3;".repeat(7) + "goer 0 year 0;shifts:1;");
        far.numbers(0, 0, 40);
        due("nineteen of forty", far.lists(0, 0, 1, 19), 19);
        far.numbers(0, 0, 10);
        due("ten of nineteen", far.lists(0, 0, 1, 19), 10);
    }

    private static void images() {
        says("IMAGES 0 to 1: THE TOWN and what a call could bring back by UNDOING; nothing can be UNDONE behind (none at first).");
        OneWayPast im = told(FULL);
        due("none at first", im.restore(0), -5);
        due("none at first", im.restore(1), -5);
        im.put(0, 1, 1);
        im.image(1);
        String was = view(im).replaceFirst("counts (\\d+ \\d+ \\d+ \\d+ \\d+ \\d+) 1 ", "counts $1 0 ");
        im.sign(3, 3);
        im.bollards(2);
        im.put(2, 0, 0);
        im.restore(1);
        alike("as it was, but for what can be undone", view(im), was);
        due("nothing can be undone", im.undo(1), -3);
        due("another town", tell(im, "town 1;goer 0 year 4;"), 2);
        im.restore(1);
        alike("the town, too", view(im), was);
        im.put(0, 0, 0);
        im.restore(1);
        alike("again and again", view(im), was);

        says("An IMAGE is made: 0. -2.");
        OneWayPast i = told("town 2;goer 0 year 1;");
        due("0", i.image(0), 0);
        due("2", i.image(2), -2);
        due("-1", i.image(-1), -2);
        i.put(0, 1, 2);
        due("1", i.image(1), 0);
        due("what can be undone stays", i.count(6), 1);
        i.put(0, 1, 3);
        due("0 again", i.restore(0) * 1000 + at(i, 0), 1);
        due("1 again", i.restore(1) * 1000 + at(i, 0), 102);
        due("in place of another one", i.image(0), 0);
        i.put(0, 1, 4);
        due("the later one", i.restore(0) * 1000 + at(i, 0), 102);
        OneWayPast fresh = new OneWayPast();
        fresh.image(0);
        tell(fresh, FULL);
        fresh.restore(0);
        due("of a new object", fresh.count(0) * 1000 + fresh.count(1) * 100 + fresh.count(2) * 10 + fresh.count(3), 1000);

        says("All that is in an IMAGE is as it was: 0. -2; -5: none was made.");
        OneWayPast r = told(FULL);
        due("2", r.restore(2), -2);
        due("-1", r.restore(-1), -2);
        due("none of 0", r.restore(0), -5);
        r.image(1);
        due("none of 0 still", r.restore(0), -5);
        r.bollards(1);
        due("1", r.restore(1) * 10 + r.count(3), 9);
        tray(r, 0, 0, 100);
        feed(r, "town 1;");
        r.restore(1);
        due("trays aren't in it", r.perform(0), 1);
        due("nor is the tape", r.count(7), 20);
        OneWayPast law = told("town 2;street 0 1;goer 0 year 0;shifts:7;may:bollards=0;");
        law.image(0);
        tell(law, "town 2;street 0 1;goer 0 year 0;shifts:8;may:bollards=1;");
        law.image(1);
        law.restore(0);
        due("its laws", law.by(0, 0, 1), 7);
        law.restore(1);
        due("its laws", law.why(0, 0), 3);
        law.bollards(1);
        due("its laws", law.by(0, 0, 1), 8);
    }

    private static void counts() {
        says("0 CORNERS, 1 STREETS, 2 GOERS, 3 BOLLARDS, 4 STREETS that are SHUT, as bits, 5 all YEARS of GOERS together, 6 calls that can be UNDONE, 7 bytes on THE TAPE, 8 LINES. NONE for others.");
        OneWayPast c = told("town 6;" + "street 0 1 sign 3;".repeat(8) + "goer 0 year 19;".repeat(3) + "bollards 9;");
        int[] most = {6, 8, 3, 9, 255, 57, 10, 900, 13};
        for (int b = 0; b < 12; b++) {
            c.bollards(9);
        }
        for (int b = 0; b < 46; b++) {
            c.feed(0, 0, 0, 0, 0);
        }
        int[] least = {1, 0, 0, 0, 0, 0, 0, 0, 0};
        OneWayPast o = new OneWayPast();
        for (int what = 0; what < 9; what++) {
            due("most of " + what, c.count(what), most[what]);
            due("least of " + what, o.count(what), least[what]);
        }
        for (int what : new int[] {-1, 9, MIN, MAX}) {
            due("others", c.count(what), -1);
        }
        c.sign(7, 0);
        due("one less is shut", c.count(4), 127);
    }
}
