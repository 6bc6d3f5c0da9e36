import java.util.Arrays;

/**
 * A town of one-way streets on which years go by, told as a text, and what goers can do in it.
 * The document that this class keeps to is DOC.md; every call answers by a number and never fails.
 */
public final class OneWayPast {
    public static final int NONE = -1;

    private static final int NO_SUCH = -2;
    private static final int CANT_BE_A_NUMBER = -3;
    private static final int TOO_MANY = -4;
    private static final int NOT_NOW = -5;
    private static final int TRAY_MISSING = -6;
    private static final int NO_SUCH_NUMBER = -7;
    private static final int LESS_WHY = -10;
    private static final int LESS_FAULT = -30;

    private static final int MOST_CORNERS = 6;
    private static final int MOST_STREETS = 8;
    private static final int MOST_GOERS = 3;
    private static final int MOST_BOLLARDS = 9;
    private static final int YEARS = 20;
    private static final int SPOTS = MOST_CORNERS * YEARS;
    private static final int TAPE_PLACES = 900;
    private static final int FEED_BYTES = 20;

    private static final int ALONG = 0;
    private static final int AGAINST = 1;
    private static final int BOTH_WAYS = 2;
    private static final int SHUT = 3;

    private static final int WHY_NO_SUCH = 1;
    private static final int WHY_SIGN = 2;
    private static final int WHY_LAW = 3;
    private static final int WHY_YEAR = 4;

    private static final int TRAYS = 4;
    private static final int TRAY_SORTS = 4;
    private static final int TRAY_PLACES = 40;
    private static final int IMAGES = 2;
    private static final int MOST_UNDONE = 10;
    private static final int MOST_TIMES_A_DAY = 40;
    private static final int MOST_GOINGS_OF_ROWS = 12;
    private static final int MOST_TOOK = 10;
    private static final int MOST_TURNS = 3;
    private static final int NO_STREET_TAKEN = 99;
    private static final int MOST_DRAWN = 6;
    private static final int YEARS_FROM = 50;

    private final Town town = new Town();
    private final Standing now = town.standing;
    private final Standing before = new Standing();
    private final Standing trial = new Standing();
    private final Reader reader = new Reader();
    private final Roads roads = new Roads(town);
    private final Deeds deeds = new Deeds(town, roads);
    private final Walk walk = new Walk(roads);
    private final Walk otherWalk = new Walk(roads);
    private final Tally tally = new Tally(roads);
    private final Game game = new Game(roads);
    private final History history = new History();
    private final Tray[] trays = new Tray[TRAYS];
    private final Town[] images = new Town[IMAGES];
    private final int[] sameYear = new int[YEARS];
    private int imagesMade;

    public OneWayPast() {
        for (int i = 0; i < trays.length; i++) {
            trays[i] = new Tray();
        }
        for (int i = 0; i < images.length; i++) {
            images[i] = new Town();
        }
    }

    // ---- the town

    public int feed(int a, int b, int c, int d, int e) {
        if (reader.tapeLength > TAPE_PLACES - FEED_BYTES) {
            return NOT_NOW;
        }
        reader.append(a);
        reader.append(b);
        reader.append(c);
        reader.append(d);
        reader.append(e);
        return reader.tapeLength;
    }

    public int town(int n) {
        if (n < 0 || n > reader.tapeLength) {
            return CANT_BE_A_NUMBER;
        }
        reader.read(n);
        if (reader.faultKind != 0) {
            return LESS_FAULT - reader.faultKind;
        }
        becomes(reader.draft);
        return town.lines;
    }

    public int fault(int what) {
        if (what == 0) {
            return reader.faultKind;
        }
        return what == 1 ? reader.faultPlace : NONE;
    }

    public int street(int s, int what) {
        if (!town.hasStreet(s)) {
            return NO_SUCH;
        }
        switch (what) {
            case 0:
                return town.beginnings[s];
            case 1:
                return town.ends[s];
            case 2:
                return now.signOf(s);
            case 3:
                return YEARS_FROM + town.years[s];
            default:
                return NO_SUCH;
        }
    }

    public int goer(int g, int what) {
        if (!town.hasGoer(g)) {
            return NO_SUCH;
        }
        switch (what) {
            case 0:
                return now.cornerOf(g);
            case 1:
                return now.yearOf(g);
            case 2:
                return streetsOpenTo(g);
            default:
                return NO_SUCH;
        }
    }

    private int streetsOpenTo(int g) {
        int bits = 0;
        for (int s = 0; s < town.streets; s++) {
            if (roads.after(g, s, now.spotOf(g), now) >= 0) {
                bits |= 1 << s;
            }
        }
        return bits;
    }

    public int why(int g, int s) {
        int to = roads.after(g, s, now.spotOf(g), now);
        return to < 0 ? -to : 0;
    }

    public int by(int g, int s, int what) {
        if (what < 0 || what > 1) {
            return NO_SUCH;
        }
        int to = roads.after(g, s, now.spotOf(g), now);
        if (to < 0) {
            return NOT_NOW;
        }
        return what == 0 ? to / YEARS : to % YEARS;
    }

    // ---- deeds

    public int go(int g, int s) {
        before.copyOf(now);
        int whyNot = deeds.walks(g, s, now);
        return whyNot == 0 ? kept(now.yearOf(g)) : LESS_WHY - whyNot;
    }

    public int sign(int s, int n) {
        before.copyOf(now);
        int whyNot = deeds.signs(s, n, now);
        return whyNot == 0 ? kept(before.signOf(s)) : LESS_WHY - whyNot;
    }

    public int bollards(int n) {
        before.copyOf(now);
        int whyNot = deeds.plants(n, now);
        return whyNot == 0 ? kept(before.bollards) : LESS_WHY - whyNot;
    }

    public int put(int g, int c, int year) {
        before.copyOf(now);
        int whyNot = deeds.moves(g, c, year, now);
        return whyNot == 0 ? kept(before.cornerOf(g) * 100 + before.yearOf(g)) : LESS_WHY - whyNot;
    }

    /** The call at hand did some: how things stood ahead of it is kept, so that it can be undone. */
    private int kept(int answer) {
        history.keep(before);
        return answer;
    }

    public int undo(int n) {
        if (n < 1 || n > history.calls) {
            return CANT_BE_A_NUMBER;
        }
        history.bringBack(n, now);
        return history.calls;
    }

    public int judge(int tray, int what) {
        Tray told = trayAt(tray);
        if (told == null || what < 0 || what > 3) {
            return NO_SUCH;
        }
        if (told.isMissing()) {
            return TRAY_MISSING;
        }
        trial.copyOf(now);
        int done = deeds.allOf(told, trial);
        switch (what) {
            case 0:
                return deeds.whyNot == 0 ? NONE : done;
            case 1:
                return deeds.whyNot;
            case 2:
                return yearsTogether(trial);
            default:
                return cornersOfGoers(trial);
        }
    }

    public int perform(int tray) {
        Tray told = trayAt(tray);
        if (told == null) {
            return NO_SUCH;
        }
        if (told.isMissing()) {
            return TRAY_MISSING;
        }
        before.copyOf(now);
        int done = deeds.allOf(told, now);
        return done > 0 ? kept(done) : done;
    }

    public int day(int seed, int times) {
        if (times < 1 || times > MOST_TIMES_A_DAY) {
            return CANT_BE_A_NUMBER;
        }
        before.copyOf(now);
        int done = deeds.drawn(seed, times, now);
        return done > 0 ? kept(done) : done;
    }

    // ---- coming

    public int soonest(int g, int c, int year) {
        int refused = refusesComing(g, c, year);
        if (refused != 0) {
            return refused;
        }
        return walk.goingsTo(comesTo(g, c, year, now));
    }

    public int way(int g, int c, int year, int i) {
        int refused = refusesComing(g, c, year);
        if (refused != 0) {
            return refused;
        }
        if (i < 0) {
            return CANT_BE_A_NUMBER;
        }
        int spot = comesTo(g, c, year, now);
        return walk.streetOfWay(spot, i);
    }

    public long rows(int g, int c, int year, int n) {
        int refused = refusesComing(g, c, year);
        if (refused != 0) {
            return refused;
        }
        if (n < 0 || n > MOST_GOINGS_OF_ROWS) {
            return CANT_BE_A_NUMBER;
        }
        tally.countWays(g, now.spotOf(g), n, now, false);
        return tally.at(c, year);
    }

    public int when(int g, int c) {
        if (!town.hasGoer(g) || !town.hasCorner(c)) {
            return NO_SUCH;
        }
        walk.spread(g, now.spotOf(g), now);
        int bits = 0;
        for (int year = 0; year < YEARS; year++) {
            if (walk.goingsTo(c * YEARS + year) != NONE) {
                bits |= 1 << year;
            }
        }
        return bits;
    }

    public int bound(int g, int what) {
        if (!town.hasGoer(g) || what < 0 || what > 1) {
            return NO_SUCH;
        }
        walk.spread(g, now.spotOf(g), now);
        int bound = now.yearOf(g);
        for (int i = 0; i < walk.found; i++) {
            int year = walk.spotAt(i) % YEARS;
            bound = what == 0 ? Math.min(bound, year) : Math.max(bound, year);
        }
        return bound;
    }

    public int reach(int g) {
        if (!town.hasGoer(g)) {
            return NO_SUCH;
        }
        walk.spread(g, now.spotOf(g), now);
        int bits = 0;
        for (int i = 0; i < walk.found; i++) {
            bits |= 1 << walk.spotAt(i) / YEARS;
        }
        return bits;
    }

    // ---- meetings, rings

    public int meet(int g, int h) {
        if (!areTwo(g, h)) {
            return NO_SUCH;
        }
        return goingsTogether(meetingSpot(g, h));
    }

    public int meetAt(int g, int h, int what) {
        if (!areTwo(g, h) || what < 0 || what > 1) {
            return NO_SUCH;
        }
        int spot = meetingSpot(g, h);
        if (spot == NONE) {
            return NONE;
        }
        return what == 0 ? spot / YEARS : spot % YEARS;
    }

    private boolean areTwo(int g, int h) {
        return town.hasGoer(g) && town.hasGoer(h) && g != h;
    }

    /** Spots go up by corners, then by years: the first of like ones is the one that is due. */
    private int meetingSpot(int g, int h) {
        walk.spread(g, now.spotOf(g), now);
        otherWalk.spread(h, now.spotOf(h), now);
        int best = NONE;
        for (int spot = 0; spot < SPOTS; spot++) {
            int together = goingsTogether(spot);
            if (together != NONE && (best == NONE || together < goingsTogether(best))) {
                best = spot;
            }
        }
        return best;
    }

    private int goingsTogether(int spot) {
        int mine = walk.goingsTo(spot);
        int theirs = otherWalk.goingsTo(spot);
        return mine == NONE || theirs == NONE ? NONE : mine + theirs;
    }

    public int ring(int g) {
        if (!town.hasGoer(g)) {
            return NO_SUCH;
        }
        walk.spread(g, now.spotOf(g), now);
        int fewest = NONE;
        for (int i = 0; i < walk.found; i++) {
            otherWalk.spread(g, walk.spotAt(i), now);
            int goings = otherWalk.goingsBack;
            if (goings != NONE && (fewest == NONE || goings < fewest)) {
                fewest = goings;
            }
        }
        return fewest;
    }

    public int laws(int g) {
        if (!town.hasGoer(g)) {
            return NO_SUCH;
        }
        int open = town.allStreets() & ~now.shutStreets(town.streets);
        int found = 0;
        for (int bits = 0; bits <= open; bits++) {
            if ((bits & ~open) == 0 && isBylaw(g, bits)) {
                found++;
            }
        }
        return found;
    }

    public int bylaw(int g, int what) {
        if (!town.hasGoer(g) || what < 0 || what > 1) {
            return NO_SUCH;
        }
        int open = town.allStreets() & ~now.shutStreets(town.streets);
        int best = NONE;
        int fewest = MOST_STREETS + 1;
        for (int bits = 0; bits <= open; bits++) {
            if ((bits & ~open) == 0 && otherSigns(bits) < fewest && isBylaw(g, bits)) {
                best = bits;
                fewest = otherSigns(bits);
            }
        }
        if (best == NONE) {
            return NONE;
        }
        return what == 0 ? fewest : best;
    }

    private boolean isBylaw(int g, int bits) {
        trial.copyOf(now);
        trial.signAll(bits, town.streets);
        return !walk.hasRing(g, trial.spotOf(g), trial);
    }

    private int otherSigns(int bits) {
        int others = 0;
        for (int s = 0; s < town.streets; s++) {
            int sign = now.signOf(s);
            if (sign != SHUT && sign != (bits >> s & 1)) {
                others++;
            }
        }
        return others;
    }

    // ---- shutting

    public int shut(int g, int c, int what) {
        if (!town.hasGoer(g) || !town.hasCorner(c) || what < 0 || what > 1) {
            return NO_SUCH;
        }
        if (now.cornerOf(g) == c) {
            return NONE;
        }
        int open = town.allStreets() & ~now.shutStreets(town.streets);
        int best = open;
        for (int bits = 0; bits < open; bits++) {
            boolean fewer = Integer.bitCount(bits) < Integer.bitCount(best);
            if ((bits & ~open) == 0 && fewer && shutsOff(g, c, bits)) {
                best = bits;
            }
        }
        return what == 0 ? Integer.bitCount(best) : best;
    }

    public int needed(int g, int c) {
        if (!town.hasGoer(g) || !town.hasCorner(c)) {
            return NO_SUCH;
        }
        if (comesTo(g, c, NONE, now) == NONE) {
            return 0;
        }
        int bits = 0;
        for (int s = 0; s < town.streets; s++) {
            if (now.signOf(s) != SHUT && shutsOff(g, c, 1 << s)) {
                bits |= 1 << s;
            }
        }
        return bits;
    }

    private boolean shutsOff(int g, int c, int bits) {
        trial.copyOf(now);
        trial.shutAll(bits, town.streets);
        return comesTo(g, c, NONE, trial) == NONE;
    }

    // ---- took

    public int from(int tray, int g, int year) {
        Tray took = trayAt(tray);
        int refused = refusesTook(took, g, year);
        if (refused != 0) {
            return refused;
        }
        int bits = 0;
        for (int c = 0; c < town.corners; c++) {
            if (yearBehindRow(took, g, c, now) == year) {
                bits |= 1 << c;
            }
        }
        return bits;
    }

    public int bollardsBy(int tray, int g, int year) {
        Tray took = trayAt(tray);
        int refused = refusesTook(took, g, year);
        if (refused != 0) {
            return refused;
        }
        return bollardsTold(took, g, year);
    }

    public int attempt(int tray, int g, int year) {
        Tray took = trayAt(tray);
        int refused = refusesTook(took, g, year);
        if (refused != 0) {
            return refused;
        }
        int told = bollardsTold(took, g, year);
        if (told == 0) {
            return NONE;
        }
        int best = NONE;
        int least = MOST_BOLLARDS + 2;
        for (int s = 0; s < town.streets; s++) {
            int alike = mostAlike(g, s, told);
            if (alike < least) {
                best = s;
                least = alike;
            }
        }
        return best;
    }

    private int refusesTook(Tray took, int g, int year) {
        if (took == null || !town.hasGoer(g)) {
            return NO_SUCH;
        }
        if (took.isMissing()) {
            return TRAY_MISSING;
        }
        if (took.size < 1 || took.size > MOST_TOOK) {
            return TOO_MANY;
        }
        for (int i = 0; i < took.size; i++) {
            if (took.valueAt(i) < 0 || took.valueAt(i) >= town.streets) {
                return CANT_BE_A_NUMBER;
            }
        }
        return isYear(year) ? 0 : CANT_BE_A_NUMBER;
    }

    /** NONE: the row can't be gone from that corner. */
    private int yearBehindRow(Tray took, int g, int corner, Standing standing) {
        if (took == null) {
            return NONE;
        }
        int spot = corner * YEARS + standing.yearOf(g);
        for (int i = 0; i < took.size && spot >= 0; i++) {
            spot = roads.after(g, (int) took.valueAt(i), spot, standing);
        }
        return spot < 0 ? NONE : spot % YEARS;
    }

    private int bollardsTold(Tray took, int g, int year) {
        trial.copyOf(now);
        int bits = 0;
        for (int n = 0; n <= MOST_BOLLARDS; n++) {
            trial.bollards = n;
            if (yearBehindRow(took, g, now.cornerOf(g), trial) == year) {
                bits |= 1 << n;
            }
        }
        return bits;
    }

    /** Of the told numbers of bollards: the most that going a street from now wouldn't tell apart. */
    private int mostAlike(int g, int s, int told) {
        trial.copyOf(now);
        Arrays.fill(sameYear, 0);
        int most = 0;
        for (int n = 0; n <= MOST_BOLLARDS; n++) {
            if ((told >> n & 1) == 0) {
                continue;
            }
            trial.bollards = n;
            int to = roads.after(g, s, now.spotOf(g), trial);
            int year = to < 0 ? now.yearOf(g) : to % YEARS;
            if (isYear(year)) {
                sameYear[year]++;
                most = Math.max(most, sameYear[year]);
            }
        }
        return most;
    }

    // ---- by turns

    public int forces(int g, int c) {
        if (!town.hasGoer(g) || !town.hasCorner(c)) {
            return NO_SUCH;
        }
        game.begin(g, c, now);
        return game.fewestTurns();
    }

    public int best(int g, int c) {
        if (!town.hasGoer(g) || !town.hasCorner(c)) {
            return NO_SUCH;
        }
        game.begin(g, c, now);
        return game.firstStreet();
    }

    // ---- chances

    public int chance(int g, int c, int n, int what) {
        if (!town.hasGoer(g) || !town.hasCorner(c) || what < 0 || what > 1) {
            return NO_SUCH;
        }
        if (n < 0 || n > MOST_DRAWN) {
            return CANT_BE_A_NUMBER;
        }
        tally.countWays(g, now.spotOf(g), n, now, true);
        return inLowestTerms(tally.at(c, NONE), tally.drawings, what);
    }

    public int mean(int g, int n, int what) {
        if (!town.hasGoer(g) || what < 0 || what > 1) {
            return NO_SUCH;
        }
        if (n < 0 || n > MOST_DRAWN) {
            return CANT_BE_A_NUMBER;
        }
        tally.countWays(g, now.spotOf(g), n, now, true);
        return inLowestTerms(tally.yearsInAll(), tally.drawings, what);
    }

    public int likeliest(int g, int n) {
        if (!town.hasGoer(g)) {
            return NO_SUCH;
        }
        if (n < 0 || n > MOST_DRAWN) {
            return CANT_BE_A_NUMBER;
        }
        tally.countWays(g, now.spotOf(g), n, now, true);
        int best = 0;
        for (int c = 1; c < town.corners; c++) {
            if (tally.at(c, NONE) > tally.at(best, NONE)) {
                best = c;
            }
        }
        return best;
    }

    private static int inLowestTerms(long above, long below, int what) {
        long common = commonDivisor(above, below);
        if (common < 1) {
            return 0;
        }
        return (int) ((what == 0 ? above : below) / common);
    }

    private static long commonDivisor(long a, long b) {
        long greater = a;
        long lesser = b;
        for (int i = 0; i < 128 && lesser != 0; i++) {
            long rest = greater % lesser;
            greater = lesser;
            lesser = rest;
        }
        return greater;
    }

    // ---- trays, images

    public int numbers(int tray, int sort, int n) {
        Tray renewed = trayAt(tray);
        if (renewed == null || sort < 0 || sort >= TRAY_SORTS) {
            return NO_SUCH;
        }
        if (n < 0 || n > TRAY_PLACES) {
            return CANT_BE_A_NUMBER;
        }
        renewed.begin(sort, n);
        return 0;
    }

    public long write(int tray, int i, long v) {
        Tray written = trayAt(tray);
        if (written == null) {
            return NO_SUCH;
        }
        if (written.isMissing()) {
            return TRAY_MISSING;
        }
        if (!written.hasPlace(i)) {
            return NO_SUCH_NUMBER;
        }
        written.set(i, v);
        return written.valueAt(i);
    }

    public int lists(int tray, int g, int c, int year) {
        Tray listed = trayAt(tray);
        if (listed == null || !town.hasGoer(g) || !town.hasCorner(c)) {
            return NO_SUCH;
        }
        if (listed.isMissing()) {
            return TRAY_MISSING;
        }
        int refused = refusesComing(g, c, year);
        if (refused != 0) {
            return refused;
        }
        int spot = comesTo(g, c, year, now);
        if (spot == NONE) {
            return NOT_NOW;
        }
        int streets = Math.min(walk.goingsTo(spot), listed.size);
        for (int i = 0; i < streets; i++) {
            listed.set(i, walk.streetOfWay(spot, i));
        }
        return streets;
    }

    public int image(int i) {
        Town made = imageAt(i);
        if (made == null) {
            return NO_SUCH;
        }
        made.copyOf(town);
        imagesMade |= 1 << i;
        return 0;
    }

    public int restore(int i) {
        Town made = imageAt(i);
        if (made == null) {
            return NO_SUCH;
        }
        if ((imagesMade >> i & 1) == 0) {
            return NOT_NOW;
        }
        becomes(made);
        return 0;
    }

    public int count(int what) {
        switch (what) {
            case 0:
                return town.corners;
            case 1:
                return town.streets;
            case 2:
                return town.goers;
            case 3:
                return now.bollards;
            case 4:
                return now.shutStreets(town.streets);
            case 5:
                return yearsTogether(now);
            case 6:
                return history.calls;
            case 7:
                return reader.tapeLength;
            case 8:
                return town.lines;
            default:
                return NONE;
        }
    }

    // ---- what several calls share

    private void becomes(Town other) {
        town.copyOf(other);
        history.calls = 0;
        roads.forget();
    }

    /** null: there is no such tray. */
    private Tray trayAt(int tray) {
        return tray >= 0 && tray < trays.length ? trays[tray] : null;
    }

    /** null: there is no such image. */
    private Town imageAt(int i) {
        return i >= 0 && i < images.length ? images[i] : null;
    }

    private static boolean isYear(int year) {
        return year >= 0 && year < YEARS;
    }

    private static boolean isSpot(int spot) {
        return spot >= 0 && spot < SPOTS;
    }

    /** 0, or the code by which a call that asks for a coming is refused. */
    private int refusesComing(int g, int c, int year) {
        if (!town.hasGoer(g) || !town.hasCorner(c)) {
            return NO_SUCH;
        }
        return year == NONE || isYear(year) ? 0 : CANT_BE_A_NUMBER;
    }

    /** The spot at which the goer is behind a coming (the walk knows the way then), or NONE. */
    private int comesTo(int g, int c, int year, Standing standing) {
        walk.spread(g, standing.spotOf(g), standing);
        return walk.firstAt(c, year);
    }

    private int yearsTogether(Standing standing) {
        int sum = 0;
        for (int g = 0; g < town.goers; g++) {
            sum += standing.yearOf(g);
        }
        return sum;
    }

    private int cornersOfGoers(Standing standing) {
        int bits = 0;
        for (int g = 0; g < town.goers; g++) {
            bits |= 1 << standing.cornerOf(g);
        }
        return bits;
    }

    /** All that deeds change, and so all that undoing brings back. */
    private static final class Standing {
        private final int[] signs = new int[MOST_STREETS];
        private final int[] corners = new int[MOST_GOERS];
        private final int[] years = new int[MOST_GOERS];
        private int bollards;

        void copyOf(Standing other) {
            System.arraycopy(other.signs, 0, signs, 0, MOST_STREETS);
            System.arraycopy(other.corners, 0, corners, 0, MOST_GOERS);
            System.arraycopy(other.years, 0, years, 0, MOST_GOERS);
            bollards = other.bollards;
        }

        void clear() {
            Arrays.fill(signs, ALONG);
            Arrays.fill(corners, 0);
            Arrays.fill(years, 0);
            bollards = 0;
        }

        int signOf(int s) {
            return s >= 0 && s < signs.length ? signs[s] : SHUT;
        }

        int cornerOf(int g) {
            return g >= 0 && g < corners.length ? corners[g] : 0;
        }

        int yearOf(int g) {
            return g >= 0 && g < years.length ? years[g] : 0;
        }

        int spotOf(int g) {
            return cornerOf(g) * YEARS + yearOf(g);
        }

        void setSign(int s, int sign) {
            if (s >= 0 && s < signs.length) {
                signs[s] = sign;
            }
        }

        void setGoer(int g, int corner, int year) {
            if (g >= 0 && g < corners.length && g < years.length) {
                corners[g] = corner;
                years[g] = year;
            }
        }

        int shutStreets(int streets) {
            int bits = 0;
            for (int s = 0; s < streets && s < signs.length; s++) {
                if (signs[s] == SHUT) {
                    bits |= 1 << s;
                }
            }
            return bits;
        }

        void shutAll(int bits, int streets) {
            for (int s = 0; s < streets && s < signs.length; s++) {
                if ((bits >> s & 1) == 1) {
                    signs[s] = SHUT;
                }
            }
        }

        /** A by-law: streets that are shut stay so. */
        void signAll(int bits, int streets) {
            for (int s = 0; s < streets && s < signs.length; s++) {
                if (signs[s] != SHUT) {
                    signs[s] = bits >> s & 1;
                }
            }
        }
    }

    /** What a text tells; what deeds can change of it is its standing. */
    private static final class Town {
        private final int[] beginnings = new int[MOST_STREETS];
        private final int[] ends = new int[MOST_STREETS];
        private final int[] years = new int[MOST_STREETS];
        // Both laws, operands ahead of what joins them; an empty stretch is no law.
        private final int[] code = new int[TAPE_PLACES];
        private final Standing standing = new Standing();
        private int corners = 1;
        private int streets;
        private int goers;
        private int lines;
        private int codeLength;
        private int shiftsFrom;
        private int shiftsTo;
        private int mayFrom;
        private int mayTo;

        boolean hasCorner(int c) {
            return c >= 0 && c < corners && c < MOST_CORNERS;
        }

        boolean hasStreet(int s) {
            return s >= 0 && s < streets && s < MOST_STREETS;
        }

        boolean hasGoer(int g) {
            return g >= 0 && g < goers && g < MOST_GOERS;
        }

        int allStreets() {
            return (1 << streets) - 1;
        }

        void clear() {
            standing.clear();
            corners = 1;
            streets = 0;
            goers = 0;
            lines = 0;
            codeLength = 0;
            shiftsFrom = 0;
            shiftsTo = 0;
            mayFrom = 0;
            mayTo = 0;
        }

        void copyOf(Town other) {
            standing.copyOf(other.standing);
            System.arraycopy(other.beginnings, 0, beginnings, 0, MOST_STREETS);
            System.arraycopy(other.ends, 0, ends, 0, MOST_STREETS);
            System.arraycopy(other.years, 0, years, 0, MOST_STREETS);
            System.arraycopy(other.code, 0, code, 0, other.codeLength);
            corners = other.corners;
            streets = other.streets;
            goers = other.goers;
            lines = other.lines;
            codeLength = other.codeLength;
            shiftsFrom = other.shiftsFrom;
            shiftsTo = other.shiftsTo;
            mayFrom = other.mayFrom;
            mayTo = other.mayTo;
        }

        void addStreet(int beginning, int end) {
            if (streets < MOST_STREETS) {
                beginnings[streets] = beginning;
                ends[streets] = end;
                years[streets] = 0;
                standing.setSign(streets, ALONG);
                streets++;
            }
        }

        /** Of the street that was told last. */
        void setYears(int n) {
            if (streets > 0 && streets <= MOST_STREETS) {
                years[streets - 1] = n;
            }
        }

        void addCode(int entry) {
            if (codeLength < TAPE_PLACES) {
                code[codeLength] = entry;
                codeLength++;
            }
        }
    }

    /** The tape, and the reading of a text from it into a draft, up to the first fault. */
    private static final class Reader {
        private static final int FAULT_NO_TOKEN = 1;
        private static final int FAULT_CANT_STAND = 2;
        private static final int FAULT_BOUNDS = 3;
        private static final int FAULT_TOO_MANY = 4;
        private static final int MOST_WITHIN = 6;
        private static final int MOST_DIGITS = 3;
        private static final String SIGNS = ";:+-*()[]=<>";

        // Tokens: signs are told by their own byte.
        private static final int AT_END = 0;
        private static final int AFTER_FAULT = 1;
        private static final int NUMBER = 256;
        private static final int OTHER_WORD = 257;

        // Words are numbered above every N, and what joins operands above them: a law's code holds all three.
        private static final String WORDS =
                "town street goer year bollards shifts may years back sign if then else end against not and or ";
        private static final int FIRST_WORD = 1000;
        private static final int TOWN_WORD = 1000;
        private static final int STREET_WORD = 1001;
        private static final int GOER_WORD = 1002;
        private static final int YEAR_WORD = 1003;
        private static final int BOLLARDS_WORD = 1004;
        private static final int SHIFTS_WORD = 1005;
        private static final int MAY_WORD = 1006;
        private static final int YEARS_WORD = 1007;
        private static final int BACK_WORD = 1008;
        private static final int SIGN_WORD = 1009;
        private static final int IF_WORD = 1010;
        private static final int THEN_WORD = 1011;
        private static final int ELSE_WORD = 1012;
        private static final int END_WORD = 1013;
        private static final int AGAINST_WORD = 1014;
        private static final int NOT_WORD = 1015;
        private static final int AND_WORD = 1016;
        private static final int OR_WORD = 1017;
        private static final int JOINING = 2000;

        private final byte[] tape = new byte[TAPE_PLACES];
        private final Town draft = new Town();
        private int tapeLength;
        private int textEnd;
        private int at;
        private int token;
        private int place;
        private int value;
        private boolean inMay;
        private int faultKind;
        private int faultPlace = NONE;

        void append(int four) {
            for (int shift = 24; shift >= 0; shift -= 8) {
                if (tapeLength < tape.length) {
                    tape[tapeLength] = (byte) (four >> shift);
                    tapeLength++;
                }
            }
        }

        void read(int n) {
            faultKind = 0;
            faultPlace = NONE;
            textEnd = Math.min(n, tapeLength);
            at = 0;
            draft.clear();
            advance();
            expect(TOWN_WORD);
            draft.corners = number(1, MOST_CORNERS, NONE);
            expect(';');
            draft.lines = 1;
            for (int i = 0; i < TAPE_PLACES && token != AT_END && token != AFTER_FAULT; i++) {
                line();
            }
            tapeLength = 0;
        }

        private void fail(int kind) {
            if (faultKind == 0) {
                faultKind = kind;
                faultPlace = place;
                token = AFTER_FAULT;
            }
        }

        private void advance() {
            if (faultKind != 0) {
                return;
            }
            while (at < textEnd && (tape[at] == ' ' || tape[at] == '\n')) {
                at++;
            }
            place = at;
            if (at >= textEnd) {
                token = AT_END;
                return;
            }
            byte first = tape[at];
            if (isDigit(first)) {
                value = 0;
                while (at < textEnd && isDigit(tape[at])) {
                    value = value * 10 + (tape[at] - '0');
                    at++;
                }
                token = NUMBER;
                if (at - place > MOST_DIGITS) {
                    fail(FAULT_NO_TOKEN);
                }
            } else if (isLetter(first)) {
                while (at < textEnd && isLetter(tape[at])) {
                    at++;
                }
                token = wordFrom(place, at);
            } else if (first > 0 && SIGNS.indexOf((char) first) >= 0) {
                token = first;
                at++;
            } else {
                fail(FAULT_NO_TOKEN);
            }
        }

        private static boolean isDigit(byte b) {
            return b >= '0' && b <= '9';
        }

        private static boolean isLetter(byte b) {
            return b >= 'a' && b <= 'z';
        }

        private int wordFrom(int from, int to) {
            int word = FIRST_WORD;
            int alike = 0;
            for (int i = 0; i < WORDS.length(); i++) {
                char letter = WORDS.charAt(i);
                if (letter == ' ') {
                    if (alike == to - from) {
                        return word;
                    }
                    word++;
                    alike = 0;
                } else if (alike != NONE && from + alike < to && tape[from + alike] == letter) {
                    alike++;
                } else {
                    alike = NONE;
                }
            }
            return OTHER_WORD;
        }

        private void expect(int due) {
            if (token == due) {
                advance();
            } else {
                fail(FAULT_CANT_STAND);
            }
        }

        /** An N within its bounds, but not the one that is barred (NONE bars none). */
        private int number(int least, int most, int barred) {
            if (token != NUMBER) {
                fail(FAULT_CANT_STAND);
                return 0;
            }
            if (value < least || value > most || value == barred) {
                fail(FAULT_BOUNDS);
                return 0;
            }
            int found = value;
            advance();
            return found;
        }

        private void line() {
            switch (token) {
                case STREET_WORD:
                    streetLine();
                    break;
                case GOER_WORD:
                    goerLine();
                    break;
                case BOLLARDS_WORD:
                    advance();
                    draft.standing.bollards = number(0, MOST_BOLLARDS, NONE);
                    break;
                case SHIFTS_WORD:
                    shiftsLine();
                    break;
                case MAY_WORD:
                    mayLine();
                    break;
                default:
                    fail(FAULT_CANT_STAND);
                    break;
            }
            expect(';');
            draft.lines++;
        }

        private void streetLine() {
            if (draft.streets >= MOST_STREETS) {
                fail(FAULT_TOO_MANY);
                return;
            }
            advance();
            int beginning = number(0, draft.corners - 1, NONE);
            int end = number(0, draft.corners - 1, beginning);
            draft.addStreet(beginning, end);
            for (int i = 0; i < TAPE_PLACES && isPart(); i++) {
                part();
            }
        }

        private boolean isPart() {
            return token == YEARS_WORD || token == BACK_WORD || token == SIGN_WORD;
        }

        private void part() {
            int told = token;
            advance();
            if (told == SIGN_WORD) {
                draft.standing.setSign(draft.streets - 1, number(0, SHUT, NONE));
            } else {
                int years = number(0, 9, NONE);
                draft.setYears(told == BACK_WORD ? -years : years);
            }
        }

        private void goerLine() {
            if (draft.goers >= MOST_GOERS) {
                fail(FAULT_TOO_MANY);
                return;
            }
            advance();
            int corner = number(0, draft.corners - 1, NONE);
            expect(YEAR_WORD);
            int year = number(0, YEARS - 1, NONE);
            draft.standing.setGoer(draft.goers, corner, year);
            draft.goers++;
        }

        private void shiftsLine() {
            advance();
            expect(':');
            inMay = false;
            draft.shiftsFrom = draft.codeLength;
            sum(0);
            draft.shiftsTo = draft.codeLength;
        }

        private void mayLine() {
            advance();
            expect(':');
            inMay = true;
            draft.mayFrom = draft.codeLength;
            truth(0);
            draft.mayTo = draft.codeLength;
        }

        private void truth(int within) {
            both(within);
            for (int i = 0; i < TAPE_PLACES && token == OR_WORD; i++) {
                advance();
                both(within);
                draft.addCode(JOINING + OR_WORD);
            }
        }

        private void both(int within) {
            unit(within);
            for (int i = 0; i < TAPE_PLACES && token == AND_WORD; i++) {
                advance();
                unit(within);
                draft.addCode(JOINING + AND_WORD);
            }
        }

        private void unit(int within) {
            if (token == NOT_WORD) {
                if (goesDeeper(within)) {
                    unit(within + 1);
                    draft.addCode(JOINING + NOT_WORD);
                }
            } else if (token == '[') {
                if (goesDeeper(within)) {
                    truth(within + 1);
                    expect(']');
                }
            } else {
                comparison(within);
            }
        }

        private void comparison(int within) {
            sum(within);
            int told = token;
            if (told != '=' && told != '<' && told != '>') {
                fail(FAULT_CANT_STAND);
                return;
            }
            advance();
            sum(within);
            draft.addCode(JOINING + told);
        }

        private void sum(int within) {
            term(within);
            for (int i = 0; i < TAPE_PLACES && (token == '+' || token == '-'); i++) {
                int told = token;
                advance();
                term(within);
                draft.addCode(JOINING + told);
            }
        }

        private void term(int within) {
            atom(within);
            for (int i = 0; i < TAPE_PLACES && token == '*'; i++) {
                advance();
                atom(within);
                draft.addCode(JOINING + '*');
            }
        }

        private void atom(int within) {
            if (token == NUMBER) {
                draft.addCode(value);
                advance();
            } else if (token == '(') {
                if (goesDeeper(within)) {
                    sum(within + 1);
                    expect(')');
                }
            } else if (token == IF_WORD) {
                if (goesDeeper(within)) {
                    choice(within + 1);
                }
            } else if (isNameOfNumber()) {
                draft.addCode(token);
                advance();
            } else {
                fail(FAULT_CANT_STAND);
            }
        }

        private void choice(int within) {
            truth(within);
            expect(THEN_WORD);
            sum(within);
            expect(ELSE_WORD);
            sum(within);
            expect(END_WORD);
            draft.addCode(JOINING + IF_WORD);
        }

        private boolean isNameOfNumber() {
            switch (token) {
                case STREET_WORD:
                case YEARS_WORD:
                case YEAR_WORD:
                case AGAINST_WORD:
                case BOLLARDS_WORD:
                    return true;
                case GOER_WORD:
                    return inMay;
                default:
                    return false;
            }
        }

        /** Past one of not [ ( if, unless six stand around it already. */
        private boolean goesDeeper(int within) {
            if (within >= MOST_WITHIN) {
                fail(FAULT_TOO_MANY);
                return false;
            }
            advance();
            return true;
        }
    }

    /** Reckons a law for one going; what its words stand for is set ahead. */
    private static final class Reckoner {
        // Six of not [ ( if within one another leave fewer than forty operands open.
        private static final int MOST_OPEN = 64;
        private static final int KEPT_TO = 1000000;

        private final int[] open = new int[MOST_OPEN];
        private int street;
        private int years;
        private int year;
        private int against;
        private int bollards;
        private int goer;

        int valueOf(int[] code, int from, int to) {
            int top = 0;
            for (int i = from; i < to && i >= 0 && i < code.length; i++) {
                int entry = code[i];
                if (entry < Reader.JOINING) {
                    if (top < open.length) {
                        open[top] = entry < Reader.FIRST_WORD ? entry : meaning(entry);
                        top++;
                    }
                } else if (entry == Reader.JOINING + Reader.NOT_WORD) {
                    if (top >= 1) {
                        open[top - 1] = 1 - open[top - 1];
                    }
                } else if (entry == Reader.JOINING + Reader.IF_WORD) {
                    if (top >= 3) {
                        open[top - 3] = open[top - 3] == 0 ? open[top - 1] : open[top - 2];
                        top -= 2;
                    }
                } else if (top >= 2) {
                    open[top - 2] = joined(entry - Reader.JOINING, open[top - 2], open[top - 1]);
                    top--;
                }
            }
            return top > 0 ? open[0] : 0;
        }

        void setGoing(int g, int s, int streetYears, int side, int yearAhead, int bollardsNow) {
            goer = g;
            street = s;
            years = streetYears;
            against = side;
            year = yearAhead;
            bollards = bollardsNow;
        }

        private int meaning(int word) {
            switch (word) {
                case Reader.STREET_WORD:
                    return street;
                case Reader.YEARS_WORD:
                    return years;
                case Reader.YEAR_WORD:
                    return year;
                case Reader.AGAINST_WORD:
                    return against;
                case Reader.BOLLARDS_WORD:
                    return bollards;
                default:
                    return goer;
            }
        }

        private static int joined(int joiner, int left, int right) {
            switch (joiner) {
                case '=':
                    return left == right ? 1 : 0;
                case '<':
                    return left < right ? 1 : 0;
                case '>':
                    return left > right ? 1 : 0;
                case Reader.AND_WORD:
                    return left & right;
                case Reader.OR_WORD:
                    return left | right;
                default:
                    break;
            }
            // Two numbers that are kept so fit: only their product needs a long.
            long n = (long) left * right;
            if (joiner != '*') {
                n = joiner == '+' ? left + right : left - right;
            }
            if (n > KEPT_TO) {
                return KEPT_TO;
            }
            return n < -KEPT_TO ? -KEPT_TO : (int) n;
        }
    }

    /** Where one is behind a going. A spot is a corner in a year: YEARS times the corner, and the year. */
    private static final class Roads {
        // Above every reason why not, so that a lane that is known is never 0.
        private static final int KNOWN = 10;

        private final Town town;
        private final Reckoner reckoner = new Reckoner();
        // The laws' answers don't hang on signs: searches that try other signs share them.
        private final int[] lanes = new int[MOST_GOERS * MOST_STREETS * 2 * YEARS];
        private int lanesBollards = NONE;

        Roads(Town town) {
            this.town = town;
        }

        /** Another town, other laws. */
        void forget() {
            lanesBollards = NONE;
        }

        /** From now on what is reckoned for so many bollards is kept. */
        void settle(int bollards) {
            if (bollards != lanesBollards) {
                Arrays.fill(lanes, 0);
                lanesBollards = bollards;
            }
        }

        /** The spot behind a going; below 0: why not. */
        int after(int g, int s, int spot, Standing standing) {
            if (!town.hasGoer(g) || !town.hasStreet(s) || !isSpot(spot)) {
                return -WHY_NO_SUCH;
            }
            int side = sideOf(s, spot / YEARS, standing.signOf(s));
            if (side == NONE) {
                return -WHY_SIGN;
            }
            int year = yearAfter(g, s, side, spot % YEARS, standing.bollards);
            if (year < 0) {
                return year;
            }
            int corner = side == ALONG ? town.ends[s] : town.beginnings[s];
            return corner * YEARS + year;
        }

        /** ALONG or AGAINST; NONE: no end of it is there, the sign doesn't let it. */
        private int sideOf(int s, int corner, int sign) {
            if (corner == town.beginnings[s]) {
                return sign == ALONG || sign == BOTH_WAYS ? ALONG : NONE;
            }
            if (corner == town.ends[s]) {
                return sign == AGAINST || sign == BOTH_WAYS ? AGAINST : NONE;
            }
            return NONE;
        }

        /** The streets by which signs let one leave a corner, as bits. */
        int leaving(int corner, Standing standing) {
            int bits = 0;
            for (int s = 0; s < town.streets && s < MOST_STREETS; s++) {
                if (sideOf(s, corner, standing.signOf(s)) != NONE) {
                    bits |= 1 << s;
                }
            }
            return bits;
        }

        private int yearAfter(int g, int s, int side, int year, int bollards) {
            int lane = ((g * MOST_STREETS + s) * 2 + side) * YEARS + year;
            boolean keeps = bollards == lanesBollards && lane >= 0 && lane < lanes.length;
            if (keeps && lanes[lane] != 0) {
                return lanes[lane] - KNOWN;
            }
            reckoner.setGoing(g, s, town.years[s], side, year, bollards);
            int answer = -WHY_LAW;
            if (town.mayFrom == town.mayTo || reckoner.valueOf(town.code, town.mayFrom, town.mayTo) != 0) {
                int shift = side == ALONG ? town.years[s] : -town.years[s];
                if (town.shiftsFrom != town.shiftsTo) {
                    shift = reckoner.valueOf(town.code, town.shiftsFrom, town.shiftsTo);
                }
                answer = isYear(year + shift) ? year + shift : -WHY_YEAR;
            }
            if (keeps) {
                lanes[lane] = answer + KNOWN;
            }
            return answer;
        }
    }

    /** All spots to which a goer can come, the soonest first, of like ones the first by streets. */
    private static final class Walk {
        private static final int UNSEEN = 0;
        private static final int OPEN = 1;
        private static final int CLOSED = 2;

        private final Roads roads;
        private final int[] order = new int[SPOTS];
        private final int[] goings = new int[SPOTS];
        private final int[] cameFrom = new int[SPOTS];
        private final int[] cameBy = new int[SPOTS];
        private final int[] leaving = new int[MOST_CORNERS];
        private final int[] state = new int[SPOTS];
        private final int[] untried = new int[SPOTS];
        private int found;
        private int goingsBack;

        Walk(Roads roads) {
            this.roads = roads;
        }

        void spread(int g, int start, Standing standing) {
            begin(standing);
            Arrays.fill(goings, NONE);
            found = 0;
            goingsBack = NONE;
            if (!isSpot(start)) {
                return;
            }
            goings[start] = 0;
            order[0] = start;
            found = 1;
            for (int i = 0; i < found && i < SPOTS; i++) {
                int spot = order[i];
                int streets = streetsFrom(spot);
                for (int s = 0; s < MOST_STREETS; s++) {
                    if ((streets >> s & 1) == 1) {
                        comeTo(roads.after(g, s, spot, standing), spot, s);
                    }
                }
            }
        }

        private void begin(Standing standing) {
            roads.settle(standing.bollards);
            for (int c = 0; c < leaving.length; c++) {
                leaving[c] = roads.leaving(c, standing);
            }
        }

        /** Those that the signs let one go, as bits. */
        private int streetsFrom(int spot) {
            return isSpot(spot) ? leaving[spot / YEARS] : 0;
        }

        private void comeTo(int to, int spot, int s) {
            if (!isSpot(to) || !isSpot(spot)) {
                return;
            }
            if (to == order[0] && goingsBack == NONE) {
                goingsBack = goings[spot] + 1;
            }
            if (goings[to] == NONE && found < SPOTS) {
                goings[to] = goings[spot] + 1;
                cameFrom[to] = spot;
                cameBy[to] = s;
                order[found] = to;
                found++;
            }
        }

        int spotAt(int i) {
            return i >= 0 && i < found && i < SPOTS ? order[i] : NONE;
        }

        int goingsTo(int spot) {
            return isSpot(spot) ? goings[spot] : NONE;
        }

        /** The spot that was come to first at a corner in a year (NONE: in any), or NONE. */
        int firstAt(int corner, int year) {
            for (int i = 0; i < found && i < SPOTS; i++) {
                int spot = order[i];
                if (spot / YEARS == corner && (year == NONE || spot % YEARS == year)) {
                    return spot;
                }
            }
            return NONE;
        }

        /** NONE: the way to the spot has no i-th street. */
        int streetOfWay(int spot, int i) {
            int length = goingsTo(spot);
            if (i < 0 || i >= length) {
                return NONE;
            }
            int at = spot;
            for (int left = length - 1; left > i; left--) {
                if (!isSpot(at)) {
                    return NONE;
                }
                at = cameFrom[at];
            }
            return isSpot(at) ? cameBy[at] : NONE;
        }

        /** Deeper and deeper, till a spot is come to that is still open: order is the trail to here. */
        boolean hasRing(int g, int start, Standing standing) {
            begin(standing);
            Arrays.fill(state, UNSEEN);
            found = 0;
            open(start);
            // Each time either a spot is closed or one of its streets is tried.
            for (int i = 0; i < SPOTS * (MOST_STREETS + 1) && found > 0 && found <= SPOTS; i++) {
                int spot = order[found - 1];
                if (!isSpot(spot)) {
                    return false;
                }
                int streets = untried[spot];
                if (streets == 0) {
                    state[spot] = CLOSED;
                    found--;
                    continue;
                }
                untried[spot] = streets & streets - 1;
                int to = roads.after(g, Integer.numberOfTrailingZeros(streets), spot, standing);
                if (isSpot(to) && state[to] == OPEN) {
                    return true;
                }
                open(to);
            }
            return false;
        }

        private void open(int spot) {
            if (isSpot(spot) && state[spot] == UNSEEN && found < SPOTS) {
                state[spot] = OPEN;
                untried[spot] = streetsFrom(spot);
                order[found] = spot;
                found++;
            }
        }
    }

    /** In how many ways a goer is at each spot behind so many streets, one told or drawn after the other. */
    private static final class Tally {
        private final Roads roads;
        private final long[] here = new long[SPOTS];
        private final long[] next = new long[SPOTS];
        private long drawings;

        Tally(Roads roads) {
            this.roads = roads;
        }

        /** staying: a street that it can't go leaves it where it is; else such rows are none. */
        void countWays(int g, int start, int times, Standing standing, boolean staying) {
            roads.settle(standing.bollards);
            Arrays.fill(here, 0);
            drawings = 1;
            if (isSpot(start)) {
                here[start] = 1;
            }
            if (staying && roads.town.streets == 0) {
                return;
            }
            for (int i = 0; i < times; i++) {
                oneMore(g, standing, staying);
                drawings *= roads.town.streets;
            }
        }

        private void oneMore(int g, Standing standing, boolean staying) {
            Arrays.fill(next, 0);
            for (int spot = 0; spot < SPOTS; spot++) {
                if (here[spot] == 0) {
                    continue;
                }
                for (int s = 0; s < roads.town.streets; s++) {
                    int to = roads.after(g, s, spot, standing);
                    if (isSpot(to)) {
                        next[to] += here[spot];
                    } else if (staying) {
                        next[spot] += here[spot];
                    }
                }
            }
            System.arraycopy(next, 0, here, 0, SPOTS);
        }

        /** At a corner in a year (NONE: in any). */
        long at(int corner, int year) {
            long ways = 0;
            for (int spot = 0; spot < SPOTS; spot++) {
                if (spot / YEARS == corner && (year == NONE || spot % YEARS == year)) {
                    ways += here[spot];
                }
            }
            return ways;
        }

        long yearsInAll() {
            long sum = 0;
            for (int spot = 0; spot < SPOTS; spot++) {
                sum += here[spot] * (spot % YEARS);
            }
            return sum;
        }
    }

    /** Child and warden by turns. */
    private static final class Game {
        private final Roads roads;
        // The warden shuts streets in it and opens them again.
        private final Standing streets = new Standing();
        private int child;
        private int goal;

        Game(Roads roads) {
            this.roads = roads;
        }

        void begin(int g, int corner, Standing standing) {
            roads.settle(standing.bollards);
            child = g;
            goal = corner;
            streets.copyOf(standing);
        }

        int fewestTurns() {
            for (int turns = 0; turns <= MOST_TURNS; turns++) {
                if (wins(streets.spotOf(child), turns)) {
                    return turns;
                }
            }
            return NONE;
        }

        int firstStreet() {
            int turns = fewestTurns();
            if (turns < 1) {
                return NONE;
            }
            int spot = streets.spotOf(child);
            for (int s = 0; s < roads.town.streets; s++) {
                if (winsBy(s, spot, turns)) {
                    return s;
                }
            }
            return winsBy(NO_STREET_TAKEN, spot, turns) ? NO_STREET_TAKEN : NONE;
        }

        private boolean wins(int spot, int turns) {
            if (spot / YEARS == goal) {
                return true;
            }
            if (turns < 1) {
                return false;
            }
            for (int s = 0; s < roads.town.streets; s++) {
                if (winsBy(s, spot, turns)) {
                    return true;
                }
            }
            return winsBy(NO_STREET_TAKEN, spot, turns);
        }

        private boolean winsBy(int s, int spot, int turns) {
            int to = s == NO_STREET_TAKEN ? spot : roads.after(child, s, spot, streets);
            if (to < 0) {
                return false;
            }
            if (to / YEARS == goal) {
                return true;
            }
            return turns > 1 && winsWhateverIsShut(to, turns - 1);
        }

        private boolean winsWhateverIsShut(int spot, int turns) {
            for (int s = 0; s < roads.town.streets; s++) {
                int sign = streets.signOf(s);
                if (sign == SHUT) {
                    continue;
                }
                streets.setSign(s, SHUT);
                boolean holds = wins(spot, turns);
                streets.setSign(s, sign);
                if (!holds) {
                    return false;
                }
            }
            return wins(spot, turns);
        }
    }

    /** Each deed is done in a standing, if it can be: 0, or why not. */
    private static final class Deeds {
        private final Town town;
        private final Roads roads;
        private int whyNot;
        private int x;

        Deeds(Town town, Roads roads) {
            this.town = town;
            this.roads = roads;
        }

        int walks(int g, int s, Standing standing) {
            int to = roads.after(g, s, standing.spotOf(g), standing);
            if (to < 0) {
                return -to;
            }
            standing.setGoer(g, to / YEARS, to % YEARS);
            return 0;
        }

        int signs(int s, int sign, Standing standing) {
            if (!town.hasStreet(s) || sign < ALONG || sign > SHUT) {
                return WHY_NO_SUCH;
            }
            standing.setSign(s, sign);
            return 0;
        }

        int plants(int n, Standing standing) {
            if (n < 0 || n > MOST_BOLLARDS) {
                return WHY_NO_SUCH;
            }
            standing.bollards = n;
            return 0;
        }

        int moves(int g, int c, int year, Standing standing) {
            if (!town.hasGoer(g) || !town.hasCorner(c) || !isYear(year)) {
                return WHY_NO_SUCH;
            }
            standing.setGoer(g, c, year);
            return 0;
        }

        private int told(long v, Standing standing) {
            if (v < 0 || v > 3999) {
                return WHY_NO_SUCH;
            }
            int n = (int) v;
            if (n < 100) {
                return walks(n / 10, n % 10, standing);
            }
            if (n < 200) {
                return signs((n - 100) / 10, n % 10, standing);
            }
            if (n < 1000) {
                return plants(n - 200, standing);
            }
            return moves((n - 1000) / 1000, n % 1000 / 100, n % 100, standing);
        }

        /** Till one can't be (whyNot tells then why): how many are done. */
        int allOf(Tray tray, Standing standing) {
            whyNot = 0;
            for (int i = 0; i < tray.size; i++) {
                whyNot = told(tray.valueAt(i), standing);
                if (whyNot != 0) {
                    return i;
                }
            }
            return Math.max(tray.size, 0);
        }

        /** How many could be done of those that a day draws. */
        int drawn(int seed, int times, Standing standing) {
            x = seed;
            int done = 0;
            for (int i = 0; i < times; i++) {
                if (drawnDeed(standing) == 0) {
                    done++;
                }
            }
            return done;
        }

        private int drawnDeed(Standing standing) {
            int kind = draw(6);
            if (kind < 4) {
                int g = draw(3);
                return walks(g, draw(8), standing);
            }
            if (kind == 4) {
                int s = draw(8);
                return signs(s, draw(4), standing);
            }
            return plants(draw(10), standing);
        }

        private int draw(int modulus) {
            x = 1103515245 * x + 12345;
            return modulus > 0 ? (x >>> 16) % modulus : 0;
        }
    }

    /** How things stood ahead of the latest calls that did some. */
    private static final class History {
        private final Standing[] kept = new Standing[MOST_UNDONE];
        private int eldest;
        private int calls;

        History() {
            for (int i = 0; i < kept.length; i++) {
                kept[i] = new Standing();
            }
        }

        void keep(Standing before) {
            Standing place = keptAt(calls);
            if (place != null) {
                place.copyOf(before);
            }
            if (calls < MOST_UNDONE) {
                calls++;
            } else {
                eldest = (eldest + 1) % MOST_UNDONE;
            }
        }

        void bringBack(int n, Standing now) {
            Standing place = keptAt(calls - n);
            if (place != null) {
                now.copyOf(place);
                calls -= n;
            }
        }

        /** Counted from the eldest; behind the latest of ten the eldest's place comes again. */
        private Standing keptAt(int i) {
            int place = (eldest + i) % MOST_UNDONE;
            return place >= 0 && place < kept.length ? kept[place] : null;
        }
    }

    /** Numbers of one sort; its size is NONE while it is missing. */
    private static final class Tray {
        private final long[] values = new long[TRAY_PLACES];
        private int sort;
        private int size = NONE;

        boolean isMissing() {
            return size == NONE;
        }

        boolean hasPlace(int i) {
            return i >= 0 && i < size && i < values.length;
        }

        void begin(int newSort, int newSize) {
            Arrays.fill(values, 0);
            sort = newSort;
            size = newSize;
        }

        long valueAt(int i) {
            return hasPlace(i) ? values[i] : 0;
        }

        void set(int i, long v) {
            if (hasPlace(i)) {
                values[i] = cut(v);
            }
        }

        private long cut(long v) {
            switch (sort) {
                case 0:
                    return (byte) v;
                case 1:
                    return (short) v;
                case 2:
                    return (int) v;
                default:
                    return v;
            }
        }
    }
}
