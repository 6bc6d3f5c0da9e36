import java.math.BigInteger;
import java.nio.charset.StandardCharsets;
import java.util.ArrayDeque;
import java.util.ArrayList;
import java.util.Arrays;
import java.util.Comparator;
import java.util.Deque;
import java.util.HashMap;
import java.util.HashSet;
import java.util.List;
import java.util.Map;
import java.util.PriorityQueue;
import java.util.Random;
import java.util.Set;
import java.util.TreeMap;

/** Random runs of calls (of a fixed seed), each answer beside that of a slow model written from the document. */
public final class AgainstModelTest {
    private static final int RUNS = 1000;

    public static void main(String[] args) {
        long seed = args.length > 0 ? Long.parseLong(args[0]) : 20260101L;
        int runs = args.length > 1 ? Integer.parseInt(args[1]) : RUNS;
        int wrong = 0;
        long calls = 0;
        Map<String, Integer> answers = new TreeMap<>();
        for (int run = 0; run < runs && wrong < 10; run++) {
            Run one = new Run(new Random(seed + run), answers);
            if (!one.play()) {
                wrong++;
                System.out.println("run " + run + ":");
                for (String line : one.told) {
                    System.out.println("  " + line);
                }
            }
            calls += one.told.size();
        }
        if (args.length > 2) {
            answers.forEach((what, n) -> System.out.println(what + ": " + n));
        }
        System.out.println(runs + " runs, " + calls + " calls, " + wrong + " runs wrong");
        if (wrong != 0) {
            System.exit(1);
        }
    }

    /** One run on one object and one model. */
    private static final class Run {
        final Random random;
        final OneWayPast x = new OneWayPast();
        final Model model = new Model();
        final List<String> told = new ArrayList<>();
        final Map<String, Integer> answers;
        boolean right = true;
        int callsLeft = 512;

        Run(Random random, Map<String, Integer> answers) {
            this.random = random;
            this.answers = answers;
        }

        boolean play() {
            int length = 40 + random.nextInt(160);
            if (random.nextInt(20) > 0) {
                tellTown();
            }
            for (int i = 0; i < 3 && model.goers() == 0 && random.nextInt(6) > 0; i++) {
                tellTown();
            }
            for (int i = 0; i < length && right && callsLeft > 60; i++) {
                anyCall();
            }
            return right;
        }

        void check(String call, long got, long want) {
            callsLeft--;
            told.add(call + " = " + got);
            String name = call.substring(0, call.indexOf('('));
            String kind = name + (want < -40 ? " -" : want < 0 ? " " + want : want == 0 ? " 0" : " +");
            answers.merge(kind, 1, Integer::sum);
            if (got != want) {
                right = false;
                told.add("  due is " + want);
            }
        }

        void tellTown() {
            String text = new Texts(random).town();
            if (random.nextInt(6) == 0) {
                text = new Texts(random).spoilt(text);
            }
            if (text.length() > 900) {
                text = text.substring(0, 900);
            }
            told.add("text <" + text + ">");
            byte[] bytes = text.getBytes(StandardCharsets.ISO_8859_1);
            for (int from = 0; from < bytes.length; from += 20) {
                int[] five = new int[5];
                for (int i = 0; i < 20; i++) {
                    int b = from + i < bytes.length ? bytes[from + i] & 255 : random.nextInt(256);
                    five[i / 4] = five[i / 4] << 8 | b;
                }
                check("feed(..)", x.feed(five[0], five[1], five[2], five[3], five[4]),
                        model.feed(five[0], five[1], five[2], five[3], five[4]));
            }
            int n = bytes.length + (random.nextInt(30) == 0 ? random.nextInt(5) - 2 : 0);
            check("town(" + n + ")", x.town(n), model.town(n));
            check("fault(0)", x.fault(0), model.fault(0));
            check("fault(1)", x.fault(1), model.fault(1));
        }

        /** Mostly below n, at times just beside it, seldom anything. */
        int any(int n) {
            int r = random.nextInt(60);
            if (r == 0) {
                return -1;
            }
            if (r == 1) {
                return n;
            }
            if (r == 2) {
                return random.nextInt();
            }
            return n > 0 ? random.nextInt(n) : 0;
        }

        int g() {
            return any(Math.max(1, model.goers()));
        }

        int s() {
            return any(Math.max(1, model.streets()));
        }

        int c() {
            return any(model.corners());
        }

        int year() {
            return random.nextInt(3) == 0 ? -1 : any(20);
        }

        void anyCall() {
            switch (random.nextInt(50)) {
                case 0: if (random.nextInt(4) == 0) tellTown(); break;
                case 1: { int w = any(2); check("fault(" + w + ")", x.fault(w), model.fault(w)); break; }
                case 2: { int a = s(), w = any(4); check("street(" + a + "," + w + ")", x.street(a, w), model.street(a, w)); break; }
                case 3: { int a = g(), w = any(3); check("goer(" + a + "," + w + ")", x.goer(a, w), model.goer(a, w)); break; }
                case 4: { int a = g(), b = s(); check("why(" + a + "," + b + ")", x.why(a, b), model.why(a, b)); break; }
                case 5: { int a = g(), b = s(), w = any(2); check("by(" + a + "," + b + "," + w + ")", x.by(a, b, w), model.by(a, b, w)); break; }
                case 6: case 7: case 8: { int a = g(), b = s(); check("go(" + a + "," + b + ")", x.go(a, b), model.go(a, b)); break; }
                case 9: case 10: { int a = s(), b = any(4); check("sign(" + a + "," + b + ")", x.sign(a, b), model.sign(a, b)); break; }
                case 11: { int a = any(10); check("bollards(" + a + ")", x.bollards(a), model.bollards(a)); break; }
                case 12: case 13: { int a = g(), b = c(), y = any(20); check("put(" + a + "," + b + "," + y + ")", x.put(a, b, y), model.put(a, b, y)); break; }
                case 14: { int n = any(4); check("undo(" + n + ")", x.undo(n), model.undo(n)); break; }
                case 15: case 16: { int t = any(4), w = any(4); check("judge(" + t + "," + w + ")", x.judge(t, w), model.judge(t, w)); break; }
                case 17: { int t = any(4); check("perform(" + t + ")", x.perform(t), model.perform(t)); break; }
                case 18: { int a = random.nextInt(), n = 1 + any(40); check("day(" + a + "," + n + ")", x.day(a, n), model.day(a, n)); break; }
                case 19: case 20: { int a = g(), b = c(), y = year(); check("soonest(" + a + "," + b + "," + y + ")", x.soonest(a, b, y), model.soonest(a, b, y)); break; }
                case 21: case 22: { int a = g(), b = c(), y = year(), i = any(6); check("way(" + a + "," + b + "," + y + "," + i + ")", x.way(a, b, y, i), model.way(a, b, y, i)); break; }
                case 23: { int a = g(), b = c(), y = year(), n = any(13); check("rows(" + a + "," + b + "," + y + "," + n + ")", x.rows(a, b, y, n), model.rows(a, b, y, n)); break; }
                case 24: { int a = g(), b = c(); check("when(" + a + "," + b + ")", x.when(a, b), model.when(a, b)); break; }
                case 25: { int a = g(), w = any(2); check("bound(" + a + "," + w + ")", x.bound(a, w), model.bound(a, w)); break; }
                case 26: { int a = g(); check("reach(" + a + ")", x.reach(a), model.reach(a)); break; }
                case 27: { int a = g(), b = g(); check("meet(" + a + "," + b + ")", x.meet(a, b), model.meet(a, b)); break; }
                case 28: { int a = g(), b = g(), w = any(2); check("meetAt(" + a + "," + b + "," + w + ")", x.meetAt(a, b, w), model.meetAt(a, b, w)); break; }
                case 29: { int a = g(); check("ring(" + a + ")", x.ring(a), model.ring(a)); break; }
                case 30: { int a = g(); check("laws(" + a + ")", x.laws(a), model.laws(a)); break; }
                case 31: { int a = g(), w = any(2); check("bylaw(" + a + "," + w + ")", x.bylaw(a, w), model.bylaw(a, w)); break; }
                case 32: { int a = g(), b = c(), w = any(2); check("shut(" + a + "," + b + "," + w + ")", x.shut(a, b, w), model.shut(a, b, w)); break; }
                case 33: { int a = g(), b = c(); check("needed(" + a + "," + b + ")", x.needed(a, b), model.needed(a, b)); break; }
                case 34: case 35: case 36: took(); break;
                case 37: { int a = g(), b = c(); check("forces(" + a + "," + b + ")", x.forces(a, b), model.forces(a, b)); break; }
                case 38: { int a = g(), b = c(); check("best(" + a + "," + b + ")", x.best(a, b), model.best(a, b)); break; }
                case 39: { int a = g(), b = c(), n = any(7), w = any(2); check("chance(" + a + "," + b + "," + n + "," + w + ")", x.chance(a, b, n, w), model.chance(a, b, n, w)); break; }
                case 40: { int a = g(), n = any(7), w = any(2); check("mean(" + a + "," + n + "," + w + ")", x.mean(a, n, w), model.mean(a, n, w)); break; }
                case 41: { int a = g(), n = any(7); check("likeliest(" + a + "," + n + ")", x.likeliest(a, n), model.likeliest(a, n)); break; }
                case 42: case 43: fillTray(); break;
                case 44: { int t = any(4), i = any(6); long v = random.nextLong() >> random.nextInt(64); check("write(" + t + "," + i + "," + v + ")", x.write(t, i, v), model.write(t, i, v)); break; }
                case 45: { int t = any(4), a = g(), b = c(), y = year(); check("lists(" + t + "," + a + "," + b + "," + y + ")", x.lists(t, a, b, y), model.lists(t, a, b, y)); break; }
                case 46: if (random.nextInt(3) == 0) { int i = any(2); check("image(" + i + ")", x.image(i), model.image(i)); } break;
                case 47: if (random.nextInt(3) == 0) { int i = any(2); check("restore(" + i + ")", x.restore(i), model.restore(i)); } break;
                case 48: case 49: { for (int w = -1; w <= 9; w++) check("count(" + w + ")", x.count(w), model.count(w)); break; }
                default: break;
            }
        }

        void fillTray() {
            int t = any(4);
            int sort = any(4);
            int n = random.nextInt(20) == 0 ? random.nextInt(50) - 5 : random.nextInt(6);
            check("numbers(" + t + "," + sort + "," + n + ")", x.numbers(t, sort, n), model.numbers(t, sort, n));
            for (int i = 0; i < n && i < 6; i++) {
                long v = deed();
                check("write(" + t + "," + i + "," + v + ")", x.write(t, i, v), model.write(t, i, v));
            }
        }

        long deed() {
            switch (random.nextInt(6)) {
                case 0: case 1: return g() * 10L + s();
                case 2: return 100 + s() * 10L + random.nextInt(5);
                case 3: return 200 + random.nextInt(11);
                case 4: return 1000 + g() * 1000L + c() * 100L + random.nextInt(21);
                default: return random.nextInt(4200) - 100;
            }
        }

        /** Streets that a goer really could take, most times. */
        void took() {
            int t = any(4);
            int n = random.nextInt(12) == 0 ? random.nextInt(13) : 1 + random.nextInt(3);
            check("numbers(" + t + ",1," + n + ")", x.numbers(t, 1, n), model.numbers(t, 1, n));
            int a = g();
            long[] row = model.likelyRow(a, n, random);
            for (int i = 0; i < n && row != null; i++) {
                check("write(" + t + "," + i + "," + row[i] + ")", x.write(t, i, row[i]), model.write(t, i, row[i]));
            }
            int[] years = {model.yearBehind(a, row), any(20), random.nextInt(20)};
            for (int y : years) {
                check("from(" + t + "," + a + "," + y + ")", x.from(t, a, y), model.from(t, a, y));
                check("bollardsBy(" + t + "," + a + "," + y + ")", x.bollardsBy(t, a, y), model.bollardsBy(t, a, y));
                check("attempt(" + t + "," + a + "," + y + ")", x.attempt(t, a, y), model.attempt(t, a, y));
            }
        }
    }

    /** Random texts. */
    private static final class Texts {
        final Random random;

        Texts(Random random) {
            this.random = random;
        }

        String town() {
            int corners = 1 + random.nextInt(6);
            if (corners == 1 && random.nextInt(3) > 0) {
                corners = 3;
            }
            List<String> lines = new ArrayList<>();
            int streets = corners == 1 ? 0 : random.nextInt(3) > 0 ? 4 + random.nextInt(5) : random.nextInt(9);
            int still = random.nextInt(3);
            for (int i = 0; i < streets; i++) {
                lines.add(street(corners, still));
            }
            int goers = random.nextInt(20) == 0 ? 0 : 1 + random.nextInt(3);
            for (int i = 0; i < goers; i++) {
                lines.add("goer " + random.nextInt(corners) + " year " + random.nextInt(20));
            }
            for (int i = random.nextInt(3); i > 0; i--) {
                lines.add("bollards " + random.nextInt(10));
            }
            if (random.nextInt(2) == 0) {
                lines.add("shifts" + blank() + ":" + blank() + shift());
            }
            for (int i = random.nextInt(5) == 0 ? 2 : random.nextInt(2); i > 0; i--) {
                String truth = truth(random.nextInt(4), true);
                lines.add("may :" + blank() + (random.nextInt(3) == 0 ? truth : "year<19 or goer=0 or " + truth));
            }
            java.util.Collections.shuffle(lines, random);
            StringBuilder text = new StringBuilder("town " + corners + ";");
            for (String line : lines) {
                text.append(blank()).append(line).append(blank()).append(';');
            }
            return text.toString();
        }

        String blank() {
            switch (random.nextInt(6)) {
                case 0: return " ";
                case 1: return "\n";
                case 2: return "  ";
                default: return "";
            }
        }

        String street(int corners, int still) {
            int a = random.nextInt(corners);
            int b = (a + 1 + random.nextInt(corners - 1)) % corners;
            StringBuilder line = new StringBuilder("street " + a + " " + b);
            if (still > 0 && random.nextInt(3) > 0) {
                int most = still == 1 ? 3 : 10;
                line.append(random.nextBoolean() ? " years " : " back ").append(random.nextInt(most));
            }
            if (random.nextInt(2) == 0) {
                int[] likely = {0, 1, 1, 2, 2, 2, 3};
                line.append(" sign ").append(likely[random.nextInt(likely.length)]);
            }
            if (random.nextInt(8) == 0) {
                line.append(" back 1 sign 2");
            }
            return line.toString();
        }

        /** One that often tells years that can be. */
        String shift() {
            switch (random.nextInt(6)) {
                case 0: return "if " + truth(random.nextInt(3), false) + " then years else 0-years end";
                case 1: return "bollards-" + random.nextInt(6);
                case 2: return "if against=1 then 0-bollards else bollards end";
                case 3: return "if year>9 then 0-" + random.nextInt(4) + " else street-" + random.nextInt(3) + " end";
                case 4: return random.nextInt(3) + "-years*(street-2)";
                default: return sum(random.nextInt(4), false);
            }
        }

        String sum(int depth, boolean inMay) {
            StringBuilder text = new StringBuilder(term(depth, inMay));
            while (random.nextInt(3) == 0) {
                text.append(random.nextBoolean() ? "+" : "-").append(blank()).append(term(depth, inMay));
            }
            return text.toString();
        }

        String term(int depth, boolean inMay) {
            StringBuilder text = new StringBuilder(atom(depth, inMay));
            while (random.nextInt(4) == 0) {
                text.append(blank()).append("*").append(atom(depth, inMay));
            }
            return text.toString();
        }

        String atom(int depth, boolean inMay) {
            if (depth > 0 && random.nextInt(2) == 0) {
                if (random.nextBoolean()) {
                    return "(" + sum(depth - 1, inMay) + blank() + ")";
                }
                return "if " + truth(depth - 1, inMay) + " then " + sum(depth - 1, inMay) + " else " + sum(depth - 1, inMay) + " end";
            }
            switch (random.nextInt(inMay ? 9 : 8)) {
                case 0: return "street";
                case 1: return "years";
                case 2: return "year";
                case 3: return "against";
                case 4: return "bollards";
                case 8: return "goer";
                case 5: return "" + random.nextInt(1000);
                default: return "" + random.nextInt(10);
            }
        }

        String truth(int depth, boolean inMay) {
            StringBuilder text = new StringBuilder(both(depth, inMay));
            while (random.nextInt(3) == 0) {
                text.append(" or ").append(both(depth, inMay));
            }
            return text.toString();
        }

        String both(int depth, boolean inMay) {
            StringBuilder text = new StringBuilder(unit(depth, inMay));
            while (random.nextInt(4) == 0) {
                text.append(" and ").append(unit(depth, inMay));
            }
            return text.toString();
        }

        String unit(int depth, boolean inMay) {
            if (depth > 0 && random.nextInt(2) == 0) {
                return random.nextBoolean() ? "not " + unit(depth - 1, inMay) : "[" + truth(depth - 1, inMay) + "]";
            }
            String[] signs = {"=", "<", ">"};
            return sum(depth, inMay) + blank() + signs[random.nextInt(3)] + sum(depth, inMay);
        }

        /** The first number behind a place becomes another one. */
        void otherNumber(StringBuilder text, int from) {
            for (int at = from; at < text.length(); at++) {
                if (text.charAt(at) >= '0' && text.charAt(at) <= '9') {
                    text.replace(at, at + 1, "" + random.nextInt(24));
                    return;
                }
            }
        }

        String spoilt(String text) {
            String[] parts = {" ", ";", "town", "street", "street 0 1;", "goer 0 year 1;", "goer", "year", "years", "9", "1000", "12",
                "(", "((((((", "[", "not ", "not not not not ", "if ", "then", "end", "=", "+", "-", "*", ":", ",", "\t", "A", "\u00ff", "\0",
                "x", "back", "sign 4", "may:1=1;", "shifts:goer;", "shifts:1;", "or", "and", ")", "]", "0", "if 1=1 then "};
            StringBuilder spoilt = new StringBuilder(text);
            for (int i = 1 + random.nextInt(2); i > 0; i--) {
                int at = random.nextInt(spoilt.length());
                int to = Math.min(spoilt.length(), at + random.nextInt(4));
                if (random.nextInt(3) == 0) {
                    otherNumber(spoilt, at);
                } else if (random.nextInt(3) > 0) {
                    spoilt.replace(at, to, parts[random.nextInt(parts.length)]);
                } else if (random.nextBoolean()) {
                    spoilt.delete(at, to);
                } else {
                    spoilt.setLength(Math.max(1, at));
                }
            }
            if (random.nextInt(4) == 0) {
                spoilt.insert(spoilt.indexOf(";") + 1, "shifts:" + sum(7, false) + ";");
            }
            return spoilt.length() == 0 ? ";" : spoilt.toString();
        }
    }

    /** A law's part. */
    private interface Part {
        long of(Map<String, Long> names);
    }

    @SuppressWarnings("serial")
    private static final class Fault extends RuntimeException {
        final int kind;
        final int place;

        Fault(int kind, int place) {
            this.kind = kind;
            this.place = place;
        }
    }

    private record Token(String kind, String text, int place) { }

    private record Spot(int corner, int year) { }

    private record Street(int a, int b, int years) { }

    /** What is told, and how it stands; copied as a whole. */
    private static final class Place implements Cloneable {
        int corners = 1;
        int lines;
        List<Street> streets = new ArrayList<>();
        Part shifts;
        Part may;
        List<Integer> signs = new ArrayList<>();
        List<Spot> goers = new ArrayList<>();
        int bollards;

        Place copy() {
            Place p = new Place();
            p.corners = corners;
            p.lines = lines;
            p.streets = new ArrayList<>(streets);
            p.shifts = shifts;
            p.may = may;
            p.signs = new ArrayList<>(signs);
            p.goers = new ArrayList<>(goers);
            p.bollards = bollards;
            return p;
        }

        /** The spot, or an Integer: why not. */
        Object after(int g, int s, Spot at) {
            if (g < 0 || g >= goers.size() || s < 0 || s >= streets.size()) {
                return 1;
            }
            Street street = streets.get(s);
            int sign = signs.get(s);
            boolean along = at.corner == street.a && (sign == 0 || sign == 2);
            boolean against = at.corner == street.b && (sign == 1 || sign == 2);
            if (!along && !against) {
                return 2;
            }
            Map<String, Long> names = new HashMap<>();
            names.put("street", (long) s);
            names.put("years", (long) street.years);
            names.put("year", (long) at.year);
            names.put("against", against ? 1L : 0L);
            names.put("bollards", (long) bollards);
            names.put("goer", (long) g);
            if (may != null && may.of(names) == 0) {
                return 3;
            }
            long shift = shifts != null ? shifts.of(names) : along ? street.years : -street.years;
            if (at.year + shift < 0 || at.year + shift > 19) {
                return 4;
            }
            return new Spot(along ? street.b : street.a, (int) (at.year + shift));
        }
    }

    /** Reads all tokens first; the first bad one stands among them as such. */
    private static final class Text {
        final List<Token> tokens = new ArrayList<>();
        final Place place = new Place();
        int next;
        boolean inMay;

        Text(String text) {
            int at = 0;
            while (at < text.length()) {
                char c = text.charAt(at);
                int to = at + 1;
                if (c == ' ' || c == '\n') {
                    at++;
                    continue;
                }
                if (c >= 'a' && c <= 'z') {
                    while (to < text.length() && text.charAt(to) >= 'a' && text.charAt(to) <= 'z') to++;
                    tokens.add(new Token("word", text.substring(at, to), at));
                } else if (c >= '0' && c <= '9') {
                    while (to < text.length() && text.charAt(to) >= '0' && text.charAt(to) <= '9') to++;
                    tokens.add(new Token(to - at > 3 ? "bad" : "N", text.substring(at, to), at));
                } else if (";:+-*()[]=<>".indexOf(c) >= 0) {
                    tokens.add(new Token("sign", "" + c, at));
                } else {
                    tokens.add(new Token("bad", "" + c, at));
                }
                at = to;
            }
            tokens.add(new Token("end", "", text.length()));
        }

        Token peek() {
            Token t = tokens.get(next);
            if (t.kind.equals("bad")) {
                throw new Fault(1, t.place);
            }
            return t;
        }

        boolean is(String text) {
            return peek().text.equals(text);
        }

        boolean takes(String text) {
            if (is(text)) {
                next++;
                return true;
            }
            return false;
        }

        void must(String text) {
            if (!takes(text)) {
                throw new Fault(2, peek().place);
            }
        }

        int n(int least, int most, int not) {
            Token t = peek();
            if (!t.kind.equals("N")) {
                throw new Fault(2, t.place);
            }
            int n = Integer.parseInt(t.text);
            if (n < least || n > most || n == not) {
                throw new Fault(3, t.place);
            }
            next++;
            return n;
        }

        Place read() {
            must("town");
            place.corners = n(1, 6, -1);
            must(";");
            place.lines = 1;
            while (!peek().kind.equals("end")) {
                line();
                must(";");
                place.lines++;
            }
            return place;
        }

        void line() {
            Token t = peek();
            if (t.text.equals("street")) {
                if (place.streets.size() == 8) {
                    throw new Fault(4, t.place);
                }
                next++;
                int a = n(0, place.corners - 1, -1);
                int b = n(0, place.corners - 1, a);
                int years = 0;
                int sign = 0;
                while (true) {
                    if (takes("years")) {
                        years = n(0, 9, -1);
                    } else if (takes("back")) {
                        years = -n(0, 9, -1);
                    } else if (takes("sign")) {
                        sign = n(0, 3, -1);
                    } else {
                        break;
                    }
                }
                place.streets.add(new Street(a, b, years));
                place.signs.add(sign);
            } else if (t.text.equals("goer")) {
                if (place.goers.size() == 3) {
                    throw new Fault(4, t.place);
                }
                next++;
                int corner = n(0, place.corners - 1, -1);
                must("year");
                place.goers.add(new Spot(corner, n(0, 19, -1)));
            } else if (takes("bollards")) {
                place.bollards = n(0, 9, -1);
            } else if (takes("shifts")) {
                must(":");
                inMay = false;
                place.shifts = sum(0);
            } else if (takes("may")) {
                must(":");
                inMay = true;
                place.may = truth(0);
            } else {
                throw new Fault(2, t.place);
            }
        }

        static long kept(long n) {
            return Math.max(-1000000, Math.min(1000000, n));
        }

        void deeper(int within) {
            if (within == 6) {
                throw new Fault(4, peek().place);
            }
            next++;
        }

        Part sum(int within) {
            Part left = term(within);
            while (is("+") || is("-")) {
                boolean plus = takes("+") || !takes("-");
                Part a = left;
                Part b = term(within);
                left = names -> kept(plus ? a.of(names) + b.of(names) : a.of(names) - b.of(names));
            }
            return left;
        }

        Part term(int within) {
            Part left = atom(within);
            while (takes("*")) {
                Part a = left;
                Part b = atom(within);
                left = names -> kept(a.of(names) * b.of(names));
            }
            return left;
        }

        Part atom(int within) {
            Token t = peek();
            if (t.kind.equals("N")) {
                next++;
                long n = Long.parseLong(t.text);
                return names -> n;
            }
            if (t.text.equals("(")) {
                deeper(within);
                Part inner = sum(within + 1);
                must(")");
                return inner;
            }
            if (t.text.equals("if")) {
                deeper(within);
                Part which = truth(within + 1);
                must("then");
                Part one = sum(within + 1);
                must("else");
                Part other = sum(within + 1);
                must("end");
                return names -> which.of(names) != 0 ? one.of(names) : other.of(names);
            }
            List<String> known = List.of("street", "years", "year", "against", "bollards");
            if (known.contains(t.text) || inMay && t.text.equals("goer")) {
                next++;
                return names -> names.get(t.text);
            }
            throw new Fault(2, t.place);
        }

        Part truth(int within) {
            Part left = both(within);
            while (takes("or")) {
                Part a = left;
                Part b = both(within);
                left = names -> a.of(names) != 0 || b.of(names) != 0 ? 1 : 0;
            }
            return left;
        }

        Part both(int within) {
            Part left = unit(within);
            while (takes("and")) {
                Part a = left;
                Part b = unit(within);
                left = names -> a.of(names) != 0 && b.of(names) != 0 ? 1 : 0;
            }
            return left;
        }

        Part unit(int within) {
            if (is("not")) {
                deeper(within);
                Part inner = unit(within + 1);
                return names -> inner.of(names) != 0 ? 0 : 1;
            }
            if (is("[")) {
                deeper(within);
                Part inner = truth(within + 1);
                must("]");
                return inner;
            }
            Part left = sum(within);
            Token t = peek();
            if (!takes("=") && !takes("<") && !takes(">")) {
                throw new Fault(2, t.place);
            }
            Part right = sum(within);
            return names -> {
                int order = Long.compare(left.of(names), right.of(names));
                return (t.text.equals("=") ? order == 0 : t.text.equals("<") ? order < 0 : order > 0) ? 1 : 0;
            };
        }
    }

    /** The document, told once more. */
    private static final class Model {
        Place now = new Place();
        final Deque<Place> undoable = new ArrayDeque<>();
        final Place[] images = new Place[2];
        final long[][] trays = new long[4][];
        final int[] sorts = new int[4];
        StringBuilder tape = new StringBuilder();
        int faultKind;
        int faultPlace = -1;

        int goers() {
            return now.goers.size();
        }

        int streets() {
            return now.streets.size();
        }

        int corners() {
            return now.corners;
        }

        boolean noGoer(int g) {
            return g < 0 || g >= goers();
        }

        boolean noCorner(int c) {
            return c < 0 || c >= corners();
        }

        boolean noStreet(long s) {
            return s < 0 || s >= streets();
        }

        boolean noYear(int year) {
            return year < 0 || year > 19;
        }

        boolean out(long n, long least, long most) {
            return n < least || n > most;
        }

        int feed(int... five) {
            if (tape.length() + 20 > 900) {
                return -5;
            }
            for (int four : five) {
                tape.append((char) (four >>> 24)).append((char) (four >>> 16 & 255)).append((char) (four >>> 8 & 255)).append((char) (four & 255));
            }
            return tape.length();
        }

        int town(int n) {
            if (out(n, 0, tape.length())) {
                return -3;
            }
            String text = tape.substring(0, n);
            tape = new StringBuilder();
            try {
                now = new Text(text).read();
                undoable.clear();
                faultKind = 0;
                faultPlace = -1;
                return now.lines;
            } catch (Fault f) {
                faultKind = f.kind;
                faultPlace = f.place;
                return -30 - f.kind;
            }
        }

        int fault(int what) {
            return what == 0 ? faultKind : what == 1 ? faultPlace : -1;
        }

        int street(int s, int what) {
            if (noStreet(s) || out(what, 0, 3)) {
                return -2;
            }
            Street street = now.streets.get(s);
            return new int[] {street.a, street.b, now.signs.get(s), 50 + street.years}[what];
        }

        int goer(int g, int what) {
            if (noGoer(g) || out(what, 0, 2)) {
                return -2;
            }
            int bits = 0;
            for (int s = 0; s < streets(); s++) {
                bits += why(g, s) == 0 ? 1 << s : 0;
            }
            return new int[] {now.goers.get(g).corner, now.goers.get(g).year, bits}[what];
        }

        int why(int g, int s) {
            return noGoer(g) ? 1 : now.after(g, s, now.goers.get(g)) instanceof Integer why ? why : 0;
        }

        int by(int g, int s, int what) {
            if (out(what, 0, 1)) {
                return -2;
            }
            if (why(g, s) != 0) {
                return -5;
            }
            Spot to = (Spot) now.after(g, s, now.goers.get(g));
            return what == 0 ? to.corner : to.year;
        }

        /** Deeds on a place: 0 or why not. */
        int goes(Place p, int g, int s) {
            if (g < 0 || g >= p.goers.size()) {
                return 1;
            }
            Object to = p.after(g, s, p.goers.get(g));
            if (to instanceof Spot spot) {
                p.goers.set(g, spot);
                return 0;
            }
            return (Integer) to;
        }

        int signs(Place p, int s, int n) {
            if (noStreet(s) || out(n, 0, 3)) {
                return 1;
            }
            p.signs.set(s, n);
            return 0;
        }

        int plants(Place p, int n) {
            if (out(n, 0, 9)) {
                return 1;
            }
            p.bollards = n;
            return 0;
        }

        int puts(Place p, int g, int c, int year) {
            if (noGoer(g) || noCorner(c) || noYear(year)) {
                return 1;
            }
            p.goers.set(g, new Spot(c, year));
            return 0;
        }

        void did(Place before) {
            undoable.addLast(before);
            if (undoable.size() > 10) {
                undoable.removeFirst();
            }
        }

        int go(int g, int s) {
            Place before = now.copy();
            int why = goes(now, g, s);
            if (why != 0) {
                return -10 - why;
            }
            did(before);
            return now.goers.get(g).year;
        }

        int sign(int s, int n) {
            Place before = now.copy();
            if (signs(now, s, n) != 0) {
                return -11;
            }
            did(before);
            return before.signs.get(s);
        }

        int bollards(int n) {
            Place before = now.copy();
            if (plants(now, n) != 0) {
                return -11;
            }
            did(before);
            return before.bollards;
        }

        int put(int g, int c, int year) {
            Place before = now.copy();
            if (puts(now, g, c, year) != 0) {
                return -11;
            }
            did(before);
            return 100 * before.goers.get(g).corner + before.goers.get(g).year;
        }

        int undo(int n) {
            if (n < 1 || n > undoable.size()) {
                return -3;
            }
            for (int i = 0; i < n; i++) {
                now = undoable.removeLast();
            }
            return undoable.size();
        }

        int deed(Place p, long v) {
            if (out(v, 0, 3999)) {
                return 1;
            }
            String digits = String.format("%04d", v);
            int a = digits.charAt(0) - '0';
            int b = digits.charAt(1) - '0';
            int c = digits.charAt(2) - '0';
            int d = digits.charAt(3) - '0';
            if (a > 0) {
                return puts(p, a - 1, b, c * 10 + d);
            }
            if (b == 0) {
                return goes(p, c, d);
            }
            if (b == 1) {
                return signs(p, c, d);
            }
            return b == 2 && c == 0 ? plants(p, d) : 1;
        }

        int judge(int tray, int what) {
            if (out(tray, 0, 3) || out(what, 0, 3)) {
                return -2;
            }
            if (trays[tray] == null) {
                return -6;
            }
            Place p = now.copy();
            int place = -1;
            int why = 0;
            for (int i = 0; i < trays[tray].length && why == 0; i++) {
                why = deed(p, trays[tray][i]);
                place = why == 0 ? -1 : i;
            }
            int years = p.goers.stream().mapToInt(Spot::year).sum();
            int corners = p.goers.stream().mapToInt(s -> 1 << s.corner).reduce(0, (a, b) -> a | b);
            return new int[] {place, why, years, corners}[what];
        }

        int perform(int tray) {
            if (out(tray, 0, 3)) {
                return -2;
            }
            if (trays[tray] == null) {
                return -6;
            }
            Place before = now.copy();
            int done = 0;
            while (done < trays[tray].length && deed(now, trays[tray][done]) == 0) {
                done++;
            }
            if (done > 0) {
                did(before);
            }
            return done;
        }

        int day(int seed, int times) {
            if (out(times, 1, 40)) {
                return -3;
            }
            Place before = now.copy();
            int[] x = {seed};
            int done = 0;
            for (int i = 0; i < times; i++) {
                int kind = draw(x) % 6;
                int why;
                if (kind <= 3) {
                    int g = draw(x) % 3;
                    why = goes(now, g, draw(x) % 8);
                } else if (kind == 4) {
                    int s = draw(x) % 8;
                    why = signs(now, s, draw(x) % 4);
                } else {
                    why = plants(now, draw(x) % 10);
                }
                done += why == 0 ? 1 : 0;
            }
            if (done > 0) {
                did(before);
            }
            return done;
        }

        int draw(int[] x) {
            x[0] = (int) (1103515245L * x[0] + 12345L);
            return x[0] >>> 16;
        }

        /** To every spot that can be come to, its best row as letters. */
        Map<Spot, String> best(Place p, int g) {
            Comparator<String> order = Comparator.<String>comparingInt(String::length).thenComparing(Comparator.naturalOrder());
            PriorityQueue<Map.Entry<String, Spot>> open = new PriorityQueue<>(Map.Entry.comparingByKey(order));
            Map<Spot, String> best = new HashMap<>();
            open.add(Map.entry("", p.goers.get(g)));
            while (!open.isEmpty()) {
                Map.Entry<String, Spot> first = open.remove();
                if (best.putIfAbsent(first.getValue(), first.getKey()) != null) {
                    continue;
                }
                for (int s = 0; s < p.streets.size(); s++) {
                    if (p.after(g, s, first.getValue()) instanceof Spot to && !best.containsKey(to)) {
                        open.add(Map.entry(first.getKey() + s, to));
                    }
                }
            }
            return best;
        }

        String coming(int g, int c, int year) {
            Comparator<String> order = Comparator.<String>comparingInt(String::length).thenComparing(Comparator.naturalOrder());
            return best(now, g).entrySet().stream()
                    .filter(e -> e.getKey().corner == c && (year == -1 || e.getKey().year == year))
                    .map(Map.Entry::getValue).min(order).orElse(null);
        }

        int soonest(int g, int c, int year) {
            if (noGoer(g) || noCorner(c)) {
                return -2;
            }
            if (out(year, -1, 19)) {
                return -3;
            }
            String row = coming(g, c, year);
            return row == null ? -1 : row.length();
        }

        int way(int g, int c, int year, int i) {
            if (noGoer(g) || noCorner(c)) {
                return -2;
            }
            if (out(year, -1, 19) || i < 0) {
                return -3;
            }
            String row = coming(g, c, year);
            return row == null || i >= row.length() ? -1 : row.charAt(i) - '0';
        }

        long rows(int g, int c, int year, int n) {
            if (noGoer(g) || noCorner(c)) {
                return -2;
            }
            if (out(year, -1, 19) || out(n, 0, 12)) {
                return -3;
            }
            return rowsFrom(g, now.goers.get(g), c, year, n, new HashMap<>());
        }

        long rowsFrom(int g, Spot at, int c, int year, int n, Map<String, Long> known) {
            if (n == 0) {
                return at.corner == c && (year == -1 || at.year == year) ? 1 : 0;
            }
            String key = at + " " + n;
            if (known.containsKey(key)) {
                return known.get(key);
            }
            long sum = 0;
            for (int s = 0; s < streets(); s++) {
                if (now.after(g, s, at) instanceof Spot to) {
                    sum += rowsFrom(g, to, c, year, n - 1, known);
                }
            }
            known.put(key, sum);
            return sum;
        }

        int when(int g, int c) {
            if (noGoer(g) || noCorner(c)) {
                return -2;
            }
            return best(now, g).keySet().stream().filter(s -> s.corner == c).mapToInt(s -> 1 << s.year).sum();
        }

        int bound(int g, int what) {
            if (noGoer(g) || out(what, 0, 1)) {
                return -2;
            }
            var years = best(now, g).keySet().stream().mapToInt(Spot::year);
            return (what == 0 ? years.min() : years.max()).getAsInt();
        }

        int reach(int g) {
            return noGoer(g) ? -2 : best(now, g).keySet().stream().mapToInt(s -> 1 << s.corner).distinct().sum();
        }

        /** {goings, corner, year} or null. */
        int[] meeting(int g, int h) {
            Map<Spot, String> mine = best(now, g);
            Map<Spot, String> theirs = best(now, h);
            int[] best = null;
            for (Spot spot : mine.keySet()) {
                if (theirs.containsKey(spot)) {
                    int[] one = {mine.get(spot).length() + theirs.get(spot).length(), spot.corner, spot.year};
                    if (best == null || Arrays.compare(one, best) < 0) {
                        best = one;
                    }
                }
            }
            return best;
        }

        int meet(int g, int h) {
            if (noGoer(g) || noGoer(h) || g == h) {
                return -2;
            }
            int[] meeting = meeting(g, h);
            return meeting == null ? -1 : meeting[0];
        }

        int meetAt(int g, int h, int what) {
            if (noGoer(g) || noGoer(h) || g == h || out(what, 0, 1)) {
                return -2;
            }
            int[] meeting = meeting(g, h);
            return meeting == null ? -1 : meeting[1 + what];
        }

        int ring(int g) {
            if (noGoer(g)) {
                return -2;
            }
            List<Spot> spots = new ArrayList<>(best(now, g).keySet());
            int n = spots.size();
            int far = 1000;
            int[][] goings = new int[n][n];
            for (int i = 0; i < n; i++) {
                Arrays.fill(goings[i], far);
                for (int s = 0; s < streets(); s++) {
                    if (now.after(g, s, spots.get(i)) instanceof Spot to) {
                        goings[i][spots.indexOf(to)] = 1;
                    }
                }
            }
            for (int k = 0; k < n; k++) {
                for (int i = 0; i < n; i++) {
                    for (int j = 0; j < n; j++) {
                        goings[i][j] = Math.min(goings[i][j], goings[i][k] + goings[k][j]);
                    }
                }
            }
            int fewest = far;
            for (int i = 0; i < n; i++) {
                fewest = Math.min(fewest, goings[i][i]);
            }
            return fewest == far ? -1 : fewest;
        }

        /** Spots from which no going leads to one that is left are left out, till nothing changes. */
        boolean hasRing(Place p, int g) {
            Set<Spot> left = new HashSet<>(spotsOf(p, g));
            Map<Spot, Set<Spot>> to = new HashMap<>();
            for (Spot spot : left) {
                Set<Spot> next = new HashSet<>();
                for (int s = 0; s < p.streets.size(); s++) {
                    if (p.after(g, s, spot) instanceof Spot t) {
                        next.add(t);
                    }
                }
                to.put(spot, next);
            }
            while (left.removeIf(spot -> to.get(spot).stream().noneMatch(left::contains))) {
                continue;
            }
            return !left.isEmpty();
        }

        Set<Spot> spotsOf(Place p, int g) {
            Set<Spot> seen = new HashSet<>();
            Deque<Spot> open = new ArrayDeque<>(List.of(p.goers.get(g)));
            while (!open.isEmpty()) {
                Spot spot = open.pop();
                if (seen.add(spot)) {
                    for (int s = 0; s < p.streets.size(); s++) {
                        if (p.after(g, s, spot) instanceof Spot to) {
                            open.push(to);
                        }
                    }
                }
            }
            return seen;
        }

        /** Bits of every by-law, going up. */
        List<Integer> bylaws(int g) {
            List<Integer> found = new ArrayList<>();
            for (int bits = 0; bits < 1 << streets(); bits++) {
                Place p = now.copy();
                boolean can = true;
                for (int s = 0; s < streets(); s++) {
                    int bit = bits >> s & 1;
                    if (now.signs.get(s) == 3) {
                        can &= bit == 0;
                    } else {
                        p.signs.set(s, bit);
                    }
                }
                if (can && !hasRing(p, g)) {
                    found.add(bits);
                }
            }
            return found;
        }

        int laws(int g) {
            return noGoer(g) ? -2 : bylaws(g).size();
        }

        int bylaw(int g, int what) {
            if (noGoer(g) || out(what, 0, 1)) {
                return -2;
            }
            int[] best = null;
            for (int bits : bylaws(g)) {
                int others = 0;
                for (int s = 0; s < streets(); s++) {
                    others += now.signs.get(s) != 3 && now.signs.get(s) != (bits >> s & 1) ? 1 : 0;
                }
                int[] one = {others, bits};
                if (best == null || Arrays.compare(one, best) < 0) {
                    best = one;
                }
            }
            return best == null ? -1 : best[what];
        }

        boolean comesWithout(int g, int c, int bits) {
            Place p = now.copy();
            for (int s = 0; s < streets(); s++) {
                if ((bits >> s & 1) == 1) {
                    p.signs.set(s, 3);
                }
            }
            return spotsOf(p, g).stream().anyMatch(spot -> spot.corner == c);
        }

        boolean anyIsShut(int bits) {
            for (int s = 0; s < streets(); s++) {
                if ((bits >> s & 1) == 1 && now.signs.get(s) == 3) {
                    return true;
                }
            }
            return false;
        }

        int shut(int g, int c, int what) {
            if (noGoer(g) || noCorner(c) || out(what, 0, 1)) {
                return -2;
            }
            for (int many = 0; many <= 8; many++) {
                for (int bits = 0; bits < 1 << streets(); bits++) {
                    if (Integer.bitCount(bits) == many && !anyIsShut(bits) && !comesWithout(g, c, bits)) {
                        return what == 0 ? many : bits;
                    }
                }
            }
            return -1;
        }

        int needed(int g, int c) {
            if (noGoer(g) || noCorner(c)) {
                return -2;
            }
            int bits = 0;
            for (int s = 0; s < streets(); s++) {
                if (comesWithout(g, c, 0) && !anyIsShut(1 << s) && !comesWithout(g, c, 1 << s)) {
                    bits |= 1 << s;
                }
            }
            return bits;
        }

        /** The year behind a row from a corner with so many bollards; -1: it can't be gone. */
        int behind(int g, long[] row, int corner, int bollards) {
            Place p = now.copy();
            p.bollards = bollards;
            Spot at = new Spot(corner, now.goers.get(g).year);
            for (long s : row) {
                if (!(p.after(g, (int) s, at) instanceof Spot to)) {
                    return -1;
                }
                at = to;
            }
            return at.year;
        }

        /** For the test: a row that can be gone, if it finds one. */
        long[] likelyRow(int g, int n, Random random) {
            long[] row = new long[Math.max(0, n)];
            Spot at = noGoer(g) ? null : now.goers.get(g);
            for (int i = 0; i < row.length; i++) {
                row[i] = streets() == 0 ? 0 : random.nextInt(streets());
                for (int j = 0; at != null && streets() > 0 && j < 20; j++) {
                    long s = random.nextInt(streets());
                    if (now.after(g, (int) s, at) instanceof Spot to) {
                        row[i] = s;
                        at = to;
                        break;
                    }
                }
            }
            return row;
        }

        int yearBehind(int g, long[] row) {
            return noGoer(g) || row == null ? 0 : behind(g, row, now.goers.get(g).corner, now.bollards);
        }

        int refusesTook(int tray, int g, int year) {
            if (out(tray, 0, 3) || noGoer(g)) {
                return -2;
            }
            if (trays[tray] == null) {
                return -6;
            }
            if (out(trays[tray].length, 1, 10)) {
                return -4;
            }
            return Arrays.stream(trays[tray]).anyMatch(this::noStreet) || noYear(year) ? -3 : 0;
        }

        int from(int tray, int g, int year) {
            int bits = refusesTook(tray, g, year);
            for (int c = 0; bits >= 0 && c < corners(); c++) {
                bits |= behind(g, trays[tray], c, now.bollards) == year ? 1 << c : 0;
            }
            return bits;
        }

        int bollardsBy(int tray, int g, int year) {
            int bits = refusesTook(tray, g, year);
            for (int n = 0; bits >= 0 && n < 10; n++) {
                bits |= behind(g, trays[tray], now.goers.get(g).corner, n) == year ? 1 << n : 0;
            }
            return bits;
        }

        int attempt(int tray, int g, int year) {
            int told = bollardsBy(tray, g, year);
            if (told <= 0) {
                return told == 0 ? -1 : told;
            }
            int best = -1;
            int least = 100;
            for (int s = 0; s < streets(); s++) {
                Map<Integer, Integer> alike = new HashMap<>();
                for (int n = 0; n < 10; n++) {
                    if ((told >> n & 1) == 1) {
                        int then = behind(g, new long[] {s}, now.goers.get(g).corner, n);
                        alike.merge(then == -1 ? now.goers.get(g).year : then, 1, Integer::sum);
                    }
                }
                int most = alike.values().stream().mapToInt(i -> i).max().getAsInt();
                if (most < least) {
                    least = most;
                    best = s;
                }
            }
            return best;
        }

        boolean wins(Place p, int g, Spot at, int c, int turns) {
            if (at.corner == c) {
                return true;
            }
            for (int s = -1; turns > 0 && s < p.streets.size(); s++) {
                if (winsBy(p, g, at, c, turns, s)) {
                    return true;
                }
            }
            return false;
        }

        boolean winsBy(Place p, int g, Spot at, int c, int turns, int s) {
            Object to = s == -1 ? at : p.after(g, s, at);
            if (!(to instanceof Spot spot)) {
                return false;
            }
            if (spot.corner == c) {
                return true;
            }
            if (turns == 1) {
                return false;
            }
            if (!wins(p, g, spot, c, turns - 1)) {
                return false;
            }
            for (int shut = 0; shut < p.streets.size(); shut++) {
                if (p.signs.get(shut) != 3) {
                    Place q = p.copy();
                    q.signs.set(shut, 3);
                    if (!wins(q, g, spot, c, turns - 1)) {
                        return false;
                    }
                }
            }
            return true;
        }

        int forces(int g, int c) {
            if (noGoer(g) || noCorner(c)) {
                return -2;
            }
            for (int turns = 0; turns <= 3; turns++) {
                if (wins(now, g, now.goers.get(g), c, turns)) {
                    return turns;
                }
            }
            return -1;
        }

        int best(int g, int c) {
            int turns = forces(g, c);
            if (turns <= 0) {
                return turns == -2 ? -2 : -1;
            }
            for (int s = 0; s < streets(); s++) {
                if (winsBy(now, g, now.goers.get(g), c, turns, s)) {
                    return s;
                }
            }
            return 99;
        }

        /** How many of all drawings lead to each spot. */
        Map<Spot, BigInteger> drawn(int g, int n) {
            Map<Spot, BigInteger> at = new HashMap<>(Map.of(now.goers.get(g), BigInteger.ONE));
            for (int i = 0; i < n && streets() > 0; i++) {
                Map<Spot, BigInteger> then = new HashMap<>();
                at.forEach((spot, many) -> {
                    for (int s = 0; s < streets(); s++) {
                        then.merge(now.after(g, s, spot) instanceof Spot to ? to : spot, many, BigInteger::add);
                    }
                });
                at = then;
            }
            return at;
        }

        int fraction(BigInteger above, int n, int what) {
            BigInteger below = streets() == 0 ? BigInteger.ONE : BigInteger.valueOf(streets()).pow(n);
            BigInteger common = above.gcd(below);
            return (what == 0 ? above : below).divide(common).intValueExact();
        }

        BigInteger likely(int g, int c, int n) {
            return drawn(g, n).entrySet().stream().filter(e -> e.getKey().corner == c).map(Map.Entry::getValue).reduce(BigInteger.ZERO, BigInteger::add);
        }

        int chance(int g, int c, int n, int what) {
            if (noGoer(g) || noCorner(c) || out(what, 0, 1)) {
                return -2;
            }
            return out(n, 0, 6) ? -3 : fraction(likely(g, c, n), n, what);
        }

        int mean(int g, int n, int what) {
            if (noGoer(g) || out(what, 0, 1)) {
                return -2;
            }
            if (out(n, 0, 6)) {
                return -3;
            }
            BigInteger sum = BigInteger.ZERO;
            for (Map.Entry<Spot, BigInteger> e : drawn(g, n).entrySet()) {
                sum = sum.add(e.getValue().multiply(BigInteger.valueOf(e.getKey().year)));
            }
            return fraction(sum, n, what);
        }

        int likeliest(int g, int n) {
            if (noGoer(g)) {
                return -2;
            }
            if (out(n, 0, 6)) {
                return -3;
            }
            int best = 0;
            for (int c = 1; c < corners(); c++) {
                best = likely(g, c, n).compareTo(likely(g, best, n)) > 0 ? c : best;
            }
            return best;
        }

        int numbers(int tray, int sort, int n) {
            if (out(tray, 0, 3) || out(sort, 0, 3)) {
                return -2;
            }
            if (out(n, 0, 40)) {
                return -3;
            }
            trays[tray] = new long[n];
            sorts[tray] = sort;
            return 0;
        }

        long write(int tray, int i, long v) {
            if (out(tray, 0, 3)) {
                return -2;
            }
            if (trays[tray] == null) {
                return -6;
            }
            if (out(i, 0, trays[tray].length - 1)) {
                return -7;
            }
            int bits = 8 << sorts[tray];
            return trays[tray][i] = v << 64 - bits >> 64 - bits;
        }

        int lists(int tray, int g, int c, int year) {
            if (out(tray, 0, 3) || noGoer(g) || noCorner(c)) {
                return -2;
            }
            if (trays[tray] == null) {
                return -6;
            }
            if (out(year, -1, 19)) {
                return -3;
            }
            String row = coming(g, c, year);
            if (row == null) {
                return -5;
            }
            int i = 0;
            while (i < row.length() && i < trays[tray].length) {
                trays[tray][i] = row.charAt(i) - '0';
                i++;
            }
            return i;
        }

        int image(int i) {
            if (out(i, 0, 1)) {
                return -2;
            }
            images[i] = now.copy();
            return 0;
        }

        int restore(int i) {
            if (out(i, 0, 1)) {
                return -2;
            }
            if (images[i] == null) {
                return -5;
            }
            now = images[i].copy();
            undoable.clear();
            return 0;
        }

        int count(int what) {
            int shut = 0;
            for (int s = 0; s < streets(); s++) {
                shut |= now.signs.get(s) == 3 ? 1 << s : 0;
            }
            int[] counts = {corners(), streets(), goers(), now.bollards, shut, now.goers.stream().mapToInt(Spot::year).sum(),
                undoable.size(), tape.length(), now.lines};
            return out(what, 0, 8) ? -1 : counts[what];
        }
    }
}
