import java.util.Arrays;
import java.util.NoSuchElementException;

/** A land in which nobody may give, for something, what another one has made. */
public final class OwnMade {
    public static final int NONE = -1;

    private static final int MOST_SIGNS = 1000;
    private static final int MOST_PLACES = 5;
    private static final int MOST_GOODS = 6;
    private static final int MOST_PEOPLE = 8;
    private static final int MOST_THINGS = 40;
    private static final int MOST_LINES = 6;
    private static final int MOST_DEPTH = 5;
    private static final int MOST_RING = 5;
    private static final int MOST_MARKS = 4;
    private static final int MOST_WAY = 24;
    private static final int MOST_WORTH = 999;
    private static final int MOST_FINE = 9999;
    private static final int MOST_SEED = 9999;
    private static final int MOST_PRICE = 99;
    private static final int MOST_WEEKS = 52;
    private static final int LAST_HOUR = 168;
    private static final int LAST_SORT = 3;
    private static final int WORTHS = 3;
    private static final int SETS = 256;
    // what the fact away is without a way; the longest way there can be is far below it
    private static final int NO_WAY = 999;

    // kinds of FAULTS
    private static final int CANT_STAND = 1;
    private static final int NOT_TOLD = 2;
    private static final int TOLD_AGAIN = 3;
    private static final int BAD_NUMBER = 4;
    private static final int TOO_MANY = 5;

    // WHY not
    private static final int NO_SUCH = 1;
    private static final int NO_HOURS = 2;
    private static final int NOT_MADE = 3;
    private static final int NOT_TOGETHER = 4;
    private static final int NOT_HELD = 5;
    private static final int NOT_LAWFUL = 6;
    private static final int NO_ROOM = 7;

    // the words of both languages, each with its number; the first nine are no NAMES;
    // those of the facts of a gift, GOOD, HOURS and from OWN on, are indices of the row of facts, too
    private static final String WORDS =
            "place way good hours from person at makes wants lawful when and or not own part sort door away free";
    private static final int PLACE = 0;
    private static final int WAY = 1;
    private static final int GOOD = 2;
    private static final int HOURS = 3;
    private static final int FROM = 4;
    private static final int PERSON = 5;
    private static final int AT = 6;
    private static final int MAKES = 7;
    private static final int WANTS = 8;
    private static final int LAWFUL = 9;
    private static final int WHEN = 10;
    private static final int AND = 11;
    private static final int OR = 12;
    private static final int NOT = 13;
    private static final int OWN = 14;
    private static final int PART = 15;
    private static final int SORT = 16;
    private static final int DOOR = 17;
    private static final int AWAY = 18;
    private static final int FREE = 19;
    private static final int ALL_WORDS = 20;

    private final Tape tape = new Tape();
    private Land land = new Land();
    private Land spareLand = new Land();
    private Rule rule = new Rule();
    private Rule spareRule = new Rule();
    private final Week week = new Week();
    private final Week[] marks = new Week[MOST_MARKS];
    // MARKS as bits
    private int laid;
    private final int[] facts = new int[ALL_WORDS];
    private final Rounds rounds = new Rounds();
    private final Rounds trial = new Rounds();
    private final Homes homes = new Homes();
    private final int[] shares = new int[MOST_PEOPLE];
    private final int[] wares = new int[MOST_PEOPLE * MOST_PEOPLE];
    // whether rounds are those of the THINGS, the RULE and what is LIFTED now
    private boolean roundsKnown;

    public OwnMade() {
        for (int i = 0; i < MOST_MARKS; i++) {
            marks[i] = new Week();
        }
    }

    // ---- what is told ----

    public int feed(long a, long b, long c) {
        tape.add(a);
        tape.add(b);
        tape.add(c);
        return tape.length;
    }

    public int land() {
        int fault = LandReader.read(tape, spareLand);
        if (fault != 0) {
            return fault;
        }
        Land told = spareLand;
        spareLand = land;
        land = told;
        week.begin(land);
        laid = 0;
        roundsKnown = false;
        return 0;
    }

    public int rule() {
        int fault = RuleReader.read(tape, spareRule);
        if (fault != 0) {
            return fault;
        }
        Rule told = spareRule;
        spareRule = rule;
        rule = told;
        roundsKnown = false;
        return 0;
    }

    public int way(int a, int b) {
        if (!isPlace(a) || !isPlace(b) || land.ways[a][b] >= NO_WAY) {
            return NONE;
        }
        return land.ways[a][b];
    }

    public int good(int good, int what) {
        if (!isGood(good)) {
            return NONE;
        }
        switch (what) {
            case 0:
                return land.hours[good];
            case 1:
                return land.from[good];
            case 2:
                return land.makersOf(good);
            default:
                return NONE;
        }
    }

    public int worth(int person, int good, int k) {
        if (!isPerson(person) || !isGood(good) || k < 0 || k >= WORTHS) {
            return NONE;
        }
        return land.worthOf(person, good, k);
    }

    public int person(int person, int what) {
        if (!isPerson(person)) {
            return NONE;
        }
        switch (what) {
            case 0:
                return land.home[person];
            case 1:
                return week.place[person];
            case 2:
                return week.clock[person];
            case 3:
                return happyOf(person);
            case 4:
                return week.heldBy(person);
            case 5:
                return land.makes[person];
            default:
                return NONE;
        }
    }

    // ---- a week ----

    public int make(int person, int other, int good, int sort) {
        boolean alone = other == NONE;
        if (!isPerson(person) || !(alone || isPerson(other) && other != person)) {
            return NO_SUCH;
        }
        if (!isGood(good) || sort < 0 || sort > LAST_SORT) {
            return NO_SUCH;
        }
        int second = alone ? person : other;
        int makers = 1 << person | 1 << second;
        int done = week.laterClock(person, second) + land.hours[good];
        if (done > LAST_HOUR) {
            return NO_HOURS;
        }
        if ((land.makersOf(good) & makers) == 0 || !week.holdsOfEach(person, land.from[good])) {
            return NOT_MADE;
        }
        if (week.place[person] != week.place[second]) {
            return NOT_TOGETHER;
        }
        if (week.things >= MOST_THINGS) {
            return NO_ROOM;
        }
        week.useUp(person, land.from[good]);
        week.add(good, sort, makers, person, done);
        week.setClocks(person, second, done);
        roundsKnown = false;
        return 0;
    }

    public int go(int person, int place) {
        if (!isPerson(person) || !isPlace(place)) {
            return NO_SUCH;
        }
        int hours = land.ways[week.place[person]][place];
        if (hours >= NO_WAY || week.clock[person] + hours > LAST_HOUR) {
            return NO_HOURS;
        }
        week.clock[person] += hours;
        week.place[person] = place;
        return 0;
    }

    public int give(int giver, int receiver, int thing) {
        if (!areTwo(giver, receiver) || !isThing(thing)) {
            return NO_SUCH;
        }
        if (week.place[giver] != week.place[receiver]) {
            return NOT_TOGETHER;
        }
        if (week.holder[thing] != giver) {
            return NOT_HELD;
        }
        if (!isLawfulNow(giver, receiver, thing)) {
            return NOT_LAWFUL;
        }
        week.setClocks(giver, receiver, week.laterClock(giver, receiver));
        week.holder[thing] = receiver;
        roundsKnown = false;
        return 0;
    }

    public int thing(int thing, int what) throws NoSuchElementException {
        if (!isThing(thing)) {
            throw new NoSuchElementException("no such thing");
        }
        switch (what) {
            case 0:
                return week.good[thing];
            case 1:
                return week.sort[thing];
            case 2:
                return week.makers[thing];
            case 3:
                return week.holder[thing];
            case 4:
                return week.done[thing];
            default:
                throw new NoSuchElementException("nothing of a thing is asked so");
        }
    }

    public int lawful(int giver, int receiver, int thing) {
        if (!isHeldBy(giver, receiver, thing)) {
            return NONE;
        }
        return isLawfulNow(giver, receiver, thing) ? 1 : 0;
    }

    // ---- rounds ----

    public int round(int people) {
        return isSet(people) ? anywhere().best[people] : NONE;
    }

    public int most(int people, int what) {
        if (!isSet(people) || what < 0 || what > 2) {
            return NONE;
        }
        Rounds now = anywhere();
        return what == 0 ? now.worth[people] : what == 1 ? now.many[people] : now.within[people];
    }

    public int at(int place) {
        if (!isPlace(place)) {
            return NONE;
        }
        int there = 0;
        int doors = 0;
        for (int i = 0; i < land.people; i++) {
            if (week.place[i] == place) {
                there |= 1 << i;
            }
            if (land.home[i] == place) {
                doors |= 1 << i;
            }
        }
        findRounds(trial, there, doors, week.lifted);
        return trial.worth[there];
    }

    public int length(int people) {
        return isSet(people) ? anywhere().shortestIn(people) : NONE;
    }

    public int live(int many, int what) {
        if (!canLive(many) || what < 0 || what > 1) {
            return NONE;
        }
        homes.fill(anywhere().worth, everybody(), many, land.places);
        return what == 0 ? homes.most : homes.fewest;
    }

    public int beside(int many, int a, int b) {
        if (!canLive(many) || !areTwo(a, b)) {
            return NONE;
        }
        Rounds now = anywhere();
        homes.fill(now.worth, everybody(), many, land.places);
        return homes.together(now.worth, 1 << a | 1 << b) ? 1 : 0;
    }

    // ---- what is had, fairs ----

    public int had(int people) {
        return isSet(people) ? land.hadIn(people) : NONE;
    }

    public int never(int people) {
        return isSet(people) ? land.lackedIn(people) : NONE;
    }

    public int fewest(int person, int what) {
        if (!isPerson(person) || what < 0 || what > 1) {
            return NONE;
        }
        int size = NONE;
        int least = NONE;
        for (int set = 1; set <= everybody(); set++) {
            boolean serves = (set >> person & 1) == 1 && land.lackedIn(set) == 0;
            if (serves && (size == NONE || Integer.bitCount(set) < size)) {
                size = Integer.bitCount(set);
                least = set;
            }
        }
        return what == 0 ? size : least;
    }

    public int fair(int place, int hours, int price, int what) throws NoSuchElementException {
        if (!isPlace(place) || !isFair(hours, price) || what < 0 || what > 1) {
            throw new NoSuchElementException("no such fair");
        }
        return what == 0 ? fairWorth(anywhere(), place, hours, price) : land.comersTo(place, hours);
    }

    public int fairest(int hours, int price) {
        if (!isFair(hours, price)) {
            return NONE;
        }
        int best = NONE;
        int most = 0;
        for (int place = 0; place < land.places; place++) {
            int worth = fairWorth(anywhere(), place, hours, price);
            if (best == NONE || worth > most) {
                best = place;
                most = worth;
            }
        }
        return best;
    }

    public int far(int person, int good, int price, int what) {
        if (!isPerson(person) || !isGood(good) || price < 1 || price > MOST_PRICE || what < 0 || what > 1) {
            return NONE;
        }
        int hours = Math.min(land.worthOf(person, good, 0) / price, MOST_WORTH);
        return what == 0 ? hours : land.makersWithin(person, good, hours);
    }

    // ---- coin, law, lies ----

    public int coin(int good) {
        if (good != NONE) {
            return isGood(good) ? coinFor(good) : NONE;
        }
        int sum = 0;
        for (int each = 0; each < land.goods; each++) {
            sum += coinFor(each);
        }
        return sum;
    }

    public boolean lifted(int good, boolean yes) {
        if (!isGood(good)) {
            return false;
        }
        int bit = 1 << good;
        week.lifted = yes ? week.lifted | bit : week.lifted & ~bit;
        roundsKnown = false;
        return true;
    }

    public int lift(int good) {
        if (!isGood(good)) {
            return NONE;
        }
        int bit = 1 << good;
        return mostWith(week.lifted | bit) - mostWith(week.lifted & ~bit);
    }

    public int lie(int giver, int receiver, int thing, int ten, int fine, int what) throws NoSuchElementException {
        boolean asked = ten >= 0 && ten <= 10 && fine >= 0 && fine <= MOST_FINE && what >= 0 && what <= 2;
        if (!asked || !isHeldBy(giver, receiver, thing) || isLawfulNow(giver, receiver, thing)) {
            throw new NoSuchElementException("no such lie");
        }
        int good = week.good[thing];
        int more = land.worthOf(receiver, good, week.held(receiver, good));
        int less = land.worthOf(giver, good, week.held(giver, good) - 1);
        int hope = (10 - ten) * (more - less);
        if (what == 2) {
            return leastFine(hope, ten);
        }
        return partOfTen(hope - ten * fine, what);
    }

    public int years(int seed, int weeks, int what) {
        if (seed < 0 || seed > MOST_SEED || weeks < 1 || weeks > MOST_WEEKS || what < 0 || what > 1) {
            return NONE;
        }
        findWares();
        int sum = 0;
        int quiet = 0;
        long g = seed;
        for (int i = 0; i < weeks; i++) {
            g = drawWeek(g);
            int most = trial.worth[everybody()];
            sum += most;
            quiet += most == 0 ? 1 : 0;
        }
        return what == 0 ? sum : quiet;
    }

    public int visited() {
        int best = NONE;
        int most = 0;
        for (int i = 0; i < land.people; i++) {
            int visits = anywhere().pairsOf(i);
            if (best == NONE || visits > most) {
                best = i;
                most = visits;
            }
        }
        return best;
    }

    public boolean mark(int mark, boolean back) {
        if (mark < 0 || mark >= MOST_MARKS || back && (laid >> mark & 1) == 0) {
            return false;
        }
        if (back) {
            week.copy(marks[mark]);
            roundsKnown = false;
        } else {
            marks[mark].copy(week);
            laid |= 1 << mark;
        }
        return true;
    }

    public int count(int what) {
        switch (what) {
            case 0:
                return land.places;
            case 1:
                return land.goods;
            case 2:
                return land.people;
            case 3:
                return week.things;
            case 4:
                return week.heldAtAll();
            case 5:
                return rule.lines;
            case 6:
                return tape.length;
            case 7:
                return happyOfAll();
            default:
                return NONE;
        }
    }

    // ---- what is there ----

    private boolean isPlace(int place) {
        return place >= 0 && place < land.places;
    }

    private boolean isGood(int good) {
        return good >= 0 && good < land.goods;
    }

    private boolean isPerson(int person) {
        return person >= 0 && person < land.people;
    }

    private boolean areTwo(int a, int b) {
        return isPerson(a) && isPerson(b) && a != b;
    }

    private boolean isThing(int thing) {
        return thing >= 0 && thing < week.things;
    }

    private boolean isHeldBy(int giver, int receiver, int thing) {
        return areTwo(giver, receiver) && isThing(thing) && week.holder[thing] == giver;
    }

    private boolean isSet(int people) {
        return people >= 0 && people <= everybody();
    }

    private boolean isFair(int hours, int price) {
        return hours >= 0 && hours <= LAST_HOUR && price >= 0 && price <= MOST_PRICE;
    }

    private boolean canLive(int many) {
        return many >= 1 && many <= MOST_PEOPLE && land.people > 0 && land.people <= many * land.places;
    }

    private int everybody() {
        return (1 << land.people) - 1;
    }

    private int happyOf(int person) {
        int sum = 0;
        for (int good = 0; good < land.goods; good++) {
            sum += land.worthOfSome(person, good, week.held(person, good));
        }
        return sum;
    }

    private int happyOfAll() {
        int sum = 0;
        for (int i = 0; i < land.people; i++) {
            sum += happyOf(i);
        }
        return sum;
    }

    // ---- the law ----

    private boolean isLawfulNow(int giver, int receiver, int thing) {
        int doors = week.place[giver] == land.home[giver] ? 1 << giver : 0;
        return isLawful(giver, receiver, thing, doors, week.lifted);
    }

    private boolean isLawful(int giver, int receiver, int thing, int doors, int lifted) {
        int good = week.good[thing];
        fillFacts(giver, receiver, good, doors, lifted);
        int makers = week.makers[thing];
        facts[OWN] = makers == 1 << giver ? 1 : 0;
        facts[PART] = makers >> giver & 1;
        facts[SORT] = week.sort[thing];
        return rule.allows(facts);
    }

    /** The facts of a gift of a THING that the giver alone has made, sort 0. */
    private void fillFacts(int giver, int receiver, int good, int doors, int lifted) {
        facts[OWN] = 1;
        facts[PART] = 1;
        facts[SORT] = 0;
        facts[DOOR] = doors >> giver & 1;
        facts[HOURS] = land.hours[good];
        facts[AWAY] = land.away(giver, receiver);
        facts[GOOD] = good;
        facts[FREE] = lifted >> good & 1;
    }

    // ---- rounds of the week ----

    /** The ROUNDS among all, door being 0. */
    private Rounds anywhere() {
        if (!roundsKnown) {
            findRounds(rounds, everybody(), 0, week.lifted);
            roundsKnown = true;
        }
        return rounds;
    }

    private int mostWith(int lifted) {
        if (roundsKnown && lifted == week.lifted) {
            return rounds.worth[everybody()];
        }
        findRounds(trial, everybody(), 0, lifted);
        return trial.worth[everybody()];
    }

    private void findRounds(Rounds found, int among, int doors, int lifted) {
        found.clear();
        for (int thing = 0; thing < week.things; thing++) {
            int giver = week.holder[thing];
            if (giver == NONE || (among >> giver & 1) == 0) {
                continue;
            }
            int good = week.good[thing];
            found.hold(giver, good);
            for (int receiver = 0; receiver < land.people; receiver++) {
                boolean asked = receiver != giver && (among >> receiver & 1) == 1
                        && !found.mayGive(giver, receiver, good);
                if (asked && isLawful(giver, receiver, thing, doors, lifted)) {
                    found.allow(giver, receiver, 1 << good);
                }
            }
        }
        found.find(land, among);
    }

    private int fairWorth(Rounds now, int place, int hours, int price) {
        int comers = land.comersTo(place, hours);
        return now.worth[comers] - price * land.hoursTo(place, comers);
    }

    // ---- coin, lies, years ----

    private int coinFor(int good) {
        int things = 0;
        int now = 0;
        for (int i = 0; i < land.people; i++) {
            int held = week.held(i, good);
            things += held;
            now += land.worthOfSome(i, good, held);
        }
        return bestShared(good, things) - now;
    }

    /** Worths fall, so the next THING may go each time to whom it is worth most. */
    private int bestShared(int good, int things) {
        Arrays.fill(shares, 0);
        int sum = 0;
        for (int n = 0; n < things; n++) {
            int best = 0;
            for (int i = 1; i < land.people; i++) {
                if (land.worthOf(i, good, shares[i]) > land.worthOf(best, good, shares[best])) {
                    best = i;
                }
            }
            sum += land.worthOf(best, good, shares[best]);
            shares[best]++;
        }
        return sum;
    }

    private static int leastFine(int hope, int ten) {
        if (hope <= 0) {
            return 0;
        }
        if (ten <= 0) {
            return NONE;
        }
        int fine = (hope + ten - 1) / ten;
        return fine <= MOST_FINE ? fine : NONE;
    }

    /** Of so many tenths, in lowest terms, what is above (0) or below (1). */
    private static int partOfTen(int tenths, int what) {
        int above = tenths;
        int below = 10;
        if (above % 2 == 0) {
            above /= 2;
            below /= 2;
        }
        if (above % 5 == 0) {
            above /= 5;
            below /= 5;
        }
        return what == 0 ? above : below;
    }

    /** Asked once for all WEEKS: which GOODS one may give to another when they have made them alone. */
    private void findWares() {
        for (int giver = 0; giver < land.people; giver++) {
            for (int receiver = 0; receiver < land.people; receiver++) {
                int goods = 0;
                for (int good = 0; good < land.goods && giver != receiver; good++) {
                    fillFacts(giver, receiver, good, 0, week.lifted);
                    if ((land.makes[giver] >> good & 1) == 1 && rule.allows(facts)) {
                        goods |= 1 << good;
                    }
                }
                wares[giver * MOST_PEOPLE + receiver] = goods;
            }
        }
    }

    /** Puts the ROUNDS of a drawn WEEK into trial; what g is then. */
    private long drawWeek(long before) {
        long g = before;
        trial.clear();
        for (int i = 0; i < land.people; i++) {
            int choices = Integer.bitCount(land.makes[i]);
            if (choices > 0) {
                g = (g * 1103515245L + 12345L) % 2147483648L;
                int good = nthBit(land.makes[i], (int) (g / 65536L % choices));
                trial.hold(i, good);
                for (int to = 0; to < land.people; to++) {
                    trial.allow(i, to, wares[i * MOST_PEOPLE + to] & 1 << good);
                }
            }
        }
        trial.find(land, everybody());
        return g;
    }

    private static int nthBit(int bits, int n) {
        int left = bits;
        for (int i = 0; i < n; i++) {
            left &= left - 1;
        }
        return Integer.numberOfTrailingZeros(left);
    }

    private static int indexIn(long[] row, int count, long value) {
        for (int i = 0; i < count && i < row.length; i++) {
            if (row[i] == value) {
                return i;
            }
        }
        return NONE;
    }

    /** The TAPE and, while it is read, its TOKENS. */
    private static final class Tape {
        // a TOKEN's kind is its word's number, its sign, or one of these
        private static final int ANOTHER_WORD = 200;
        private static final int NUMBER = 201;
        private static final int END = 202;
        private static final int BAD = 203;
        private static final int LONGEST_WORD = 8;
        private static final int LONGEST_NUMBER = 4;

        private final long[] words = new long[ALL_WORDS];
        private final char[] signs = new char[MOST_SIGNS];
        private int length;
        private final int[] kinds = new int[MOST_SIGNS + 1];
        private final int[] starts = new int[MOST_SIGNS + 1];
        private final long[] values = new long[MOST_SIGNS + 1];
        private int tokens;
        // the token at hand
        private int at;
        private int kind;
        private long value;
        private int fault;

        private Tape() {
            int word = 0;
            for (int i = 0; i < WORDS.length(); i++) {
                if (WORDS.charAt(i) == ' ') {
                    word++;
                } else if (word < words.length) {
                    words[word] = withLetter(words[word], WORDS.charAt(i));
                }
            }
        }

        private void add(long bytes) {
            for (int shift = 56; shift >= 0; shift -= 8) {
                int sign = (int) (bytes >>> shift) & 255;
                boolean fits = sign == '\n' || sign >= ' ' && sign <= '~';
                if (fits && length < signs.length) {
                    signs[length] = (char) sign;
                    length++;
                }
            }
        }

        private void open() {
            tokens = 0;
            fault = 0;
            int from = 0;
            for (int i = 0; i < MOST_SIGNS && from < length; i++) {
                from = readToken(from);
            }
            keep(END, length, 0);
            at = NONE;
            advance();
        }

        private int close() {
            length = 0;
            return fault;
        }

        /** Each of these keeps the token that begins there and tells where it ends. */
        private int readToken(int from) {
            char sign = signs[from];
            if (isLetter(sign)) {
                return readWord(from);
            }
            if (isDigit(sign)) {
                return readNumber(from);
            }
            if (sign != ' ' && sign != '\n') {
                keep("()<=+-*;".indexOf(sign) >= 0 ? sign : BAD, from, 0);
            }
            return from + 1;
        }

        private int readWord(int from) {
            long word = 0;
            int end = from;
            while (end < length && isLetter(signs[end])) {
                word = withLetter(word, signs[end]);
                end++;
            }
            int known = indexIn(words, words.length, word);
            if (end - from > LONGEST_WORD) {
                keep(BAD, from, 0);
            } else {
                keep(known == NONE ? ANOTHER_WORD : known, from, word);
            }
            return end;
        }

        private int readNumber(int from) {
            int number = 0;
            int end = from;
            while (end < length && isDigit(signs[end])) {
                number = number * 10 + (signs[end] - '0');
                end++;
            }
            keep(end - from > LONGEST_NUMBER ? BAD : NUMBER, from, number);
            return end;
        }

        /** Eight letters fit into a long, so that no text need be made. */
        private static long withLetter(long word, char letter) {
            return word * 32 + (letter - 'a' + 1);
        }

        private static boolean isLetter(char sign) {
            return sign >= 'a' && sign <= 'z';
        }

        private static boolean isDigit(char sign) {
            return sign >= '0' && sign <= '9';
        }

        private void keep(int ofKind, int start, long ofValue) {
            if (tokens < kinds.length) {
                kinds[tokens] = ofKind;
                starts[tokens] = start;
                values[tokens] = ofValue;
                tokens++;
            }
        }

        /** Behind the end there is nothing: there it stays. */
        private void advance() {
            if (at + 1 < tokens) {
                at++;
                kind = kinds[at];
                value = values[at];
            }
        }

        private boolean isName() {
            return kind == ANOTHER_WORD || kind > WANTS && kind < ALL_WORDS;
        }

        /** Always false, so that who finds a FAULT may end with it. */
        private boolean wrong(int faultKind) {
            fault = faultKind + 16 * starts[at];
            return false;
        }

        private boolean take(int wordOrSign) {
            if (kind != wordOrSign) {
                return wrong(CANT_STAND);
            }
            advance();
            return true;
        }

        /** The NUMBER, if it is within the bounds, else NONE with a FAULT. */
        private int takeNumber(int least, int most) {
            if (kind != NUMBER || value < least || value > most) {
                wrong(kind == NUMBER ? BAD_NUMBER : CANT_STAND);
                return NONE;
            }
            int taken = (int) value;
            advance();
            return taken;
        }
    }

    /** What is told of a LAND. */
    private static final class Land {
        private int places;
        private int goods;
        private int people;
        private final long[] placeNames = new long[MOST_PLACES];
        private final long[] goodNames = new long[MOST_GOODS];
        private final long[] personNames = new long[MOST_PEOPLE];
        // first the ways told, then the shortest ones
        private final int[][] ways = new int[MOST_PLACES][MOST_PLACES];
        private final int[] hours = new int[MOST_GOODS];
        private final int[] from = new int[MOST_GOODS];
        private final int[] home = new int[MOST_PEOPLE];
        private final int[] makes = new int[MOST_PEOPLE];
        private final int[][] worths = new int[MOST_PEOPLE][MOST_GOODS * WORTHS];

        private void clear() {
            places = 0;
            goods = 0;
            people = 0;
            for (int a = 0; a < MOST_PLACES; a++) {
                Arrays.fill(ways[a], NO_WAY);
                ways[a][a] = 0;
            }
            for (int i = 0; i < MOST_PEOPLE; i++) {
                Arrays.fill(worths[i], 0);
            }
        }

        private boolean isTold(long name) {
            return indexIn(placeNames, places, name) != NONE || indexIn(goodNames, goods, name) != NONE
                    || indexIn(personNames, people, name) != NONE;
        }

        private void shortenWays() {
            for (int over = 0; over < places; over++) {
                for (int a = 0; a < places; a++) {
                    for (int b = 0; b < places; b++) {
                        ways[a][b] = Math.min(ways[a][b], ways[a][over] + ways[over][b]);
                    }
                }
            }
        }

        private int away(int a, int b) {
            return ways[home[a]][home[b]];
        }

        private int makersOf(int good) {
            int bits = 0;
            for (int i = 0; i < people; i++) {
                bits |= (makes[i] >> good & 1) << i;
            }
            return bits;
        }

        private int makersWithin(int person, int good, int hoursBoth) {
            int many = 0;
            for (int i = 0; i < people; i++) {
                boolean other = i != person && (makes[i] >> good & 1) == 1;
                if (other && isWithin(away(person, i), hoursBoth)) {
                    many++;
                }
            }
            return many;
        }

        private static boolean isWithin(int way, int hoursBoth) {
            return way < NO_WAY && 2 * way <= hoursBoth;
        }

        /** What the k-th one (from 0) of a GOOD is worth. */
        private int worthOf(int person, int good, int k) {
            return k >= 0 && k < WORTHS ? worths[person][good * WORTHS + k] : 0;
        }

        private int worthOfSome(int person, int good, int many) {
            int sum = 0;
            for (int k = 0; k < many && k < WORTHS; k++) {
                sum += worthOf(person, good, k);
            }
            return sum;
        }

        /** A GOOD is made from GOODS told ahead of it alone, so one walk over them is enough. */
        private int hadIn(int set) {
            int had = 0;
            for (int good = 0; good < goods; good++) {
                if ((makersOf(good) & set) != 0 && (from[good] & ~had) == 0) {
                    had |= 1 << good;
                }
            }
            return had;
        }

        private int lackedIn(int set) {
            int wanted = 0;
            for (int i = 0; i < people; i++) {
                for (int good = 0; good < goods && (set >> i & 1) == 1; good++) {
                    wanted |= worthOf(i, good, 0) > 0 ? 1 << good : 0;
                }
            }
            return wanted & ~hadIn(set);
        }

        private int comersTo(int place, int hoursBoth) {
            int comers = 0;
            for (int i = 0; i < people; i++) {
                comers |= isWithin(ways[home[i]][place], hoursBoth) ? 1 << i : 0;
            }
            return comers;
        }

        private int hoursTo(int place, int comers) {
            int sum = 0;
            for (int i = 0; i < people; i++) {
                sum += (comers >> i & 1) == 1 ? 2 * ways[home[i]][place] : 0;
            }
            return sum;
        }
    }

    /** Reads a LAND from the TAPE; each function ends at the token behind, or with a FAULT on the TAPE. */
    private static final class LandReader {
        private static int read(Tape tape, Land land) {
            land.clear();
            tape.open();
            for (int i = 0; i < MOST_SIGNS && tape.kind != Tape.END; i++) {
                if (!readLine(tape, land)) {
                    break;
                }
            }
            land.shortenWays();
            return tape.close();
        }

        private static boolean readLine(Tape tape, Land land) {
            switch (tape.kind) {
                case PLACE:
                    return land.places < MOST_PLACES ? readPlace(tape, land) : tape.wrong(TOO_MANY);
                case WAY:
                    return readWay(tape, land);
                case GOOD:
                    return land.goods < MOST_GOODS ? readGood(tape, land) : tape.wrong(TOO_MANY);
                case PERSON:
                    return land.people < MOST_PEOPLE ? readPerson(tape, land) : tape.wrong(TOO_MANY);
                default:
                    return tape.wrong(CANT_STAND);
            }
        }

        private static boolean readPlace(Tape tape, Land land) {
            tape.advance();
            if (!takeNewName(tape, land, land.placeNames, land.places)) {
                return false;
            }
            land.places++;
            return tape.take(';');
        }

        private static boolean readWay(Tape tape, Land land) {
            tape.advance();
            int a = takeTold(tape, land.placeNames, land.places, 0);
            if (a == NONE) {
                return false;
            }
            int b = takeTold(tape, land.placeNames, land.places, 1 << a);
            if (b == NONE) {
                return false;
            }
            int hours = tape.takeNumber(1, MOST_WAY);
            if (hours == NONE) {
                return false;
            }
            land.ways[a][b] = hours;
            land.ways[b][a] = hours;
            return tape.take(';');
        }

        private static boolean readGood(Tape tape, Land land) {
            int good = land.goods;
            tape.advance();
            if (!takeNewName(tape, land, land.goodNames, good) || !tape.take(HOURS)) {
                return false;
            }
            int hours = tape.takeNumber(1, MOST_WAY);
            if (hours == NONE) {
                return false;
            }
            int from = 0;
            if (tape.kind == FROM) {
                tape.advance();
                from = takeGoods(tape, land);
                if (from == 0) {
                    return tape.wrong(CANT_STAND);
                }
            }
            if (from == NONE || !tape.take(';')) {
                return false;
            }
            land.hours[good] = hours;
            land.from[good] = from;
            land.goods++;
            return true;
        }

        private static boolean readPerson(Tape tape, Land land) {
            int person = land.people;
            tape.advance();
            if (!takeNewName(tape, land, land.personNames, person) || !tape.take(AT)) {
                return false;
            }
            int home = takeTold(tape, land.placeNames, land.places, 0);
            if (home == NONE || !tape.take(MAKES)) {
                return false;
            }
            int makes = takeGoods(tape, land);
            if (makes == NONE) {
                return false;
            }
            int wanted = 0;
            for (int i = 0; i <= MOST_GOODS && tape.kind == WANTS; i++) {
                int good = readWant(tape, land, wanted);
                if (good == NONE) {
                    return false;
                }
                wanted |= 1 << good;
            }
            if (!tape.take(';')) {
                return false;
            }
            land.home[person] = home;
            land.makes[person] = makes;
            land.people++;
            return true;
        }

        /** What the next one of the PEOPLE wants, a GOOD none of the wanted ones (as bits); NONE with a FAULT. */
        private static int readWant(Tape tape, Land land, int wanted) {
            tape.advance();
            int good = takeTold(tape, land.goodNames, land.goods, wanted);
            if (good == NONE) {
                return NONE;
            }
            int[] worths = land.worths[land.people];
            int ahead = MOST_WORTH;
            for (int k = 0; k < WORTHS && (k == 0 || tape.kind == Tape.NUMBER); k++) {
                ahead = tape.takeNumber(0, ahead);
                if (ahead == NONE) {
                    return NONE;
                }
                worths[good * WORTHS + k] = ahead;
            }
            return good;
        }

        /** The NAME counts as told only when its line's count goes up. */
        private static boolean takeNewName(Tape tape, Land land, long[] names, int index) {
            if (!tape.isName()) {
                return tape.wrong(CANT_STAND);
            }
            if (land.isTold(tape.value) || index >= names.length) {
                return tape.wrong(TOLD_AGAIN);
            }
            names[index] = tape.value;
            tape.advance();
            return true;
        }

        /** Which of those told the NAME is, if it is none of the taken ones (as bits), else NONE with a FAULT. */
        private static int takeTold(Tape tape, long[] names, int count, int taken) {
            int told = tape.isName() ? indexIn(names, count, tape.value) : NONE;
            if (told == NONE) {
                tape.wrong(tape.isName() ? NOT_TOLD : CANT_STAND);
                return NONE;
            }
            if ((taken >> told & 1) == 1) {
                tape.wrong(TOLD_AGAIN);
                return NONE;
            }
            tape.advance();
            return told;
        }

        /** GOODS told, each once, as bits; NONE with a FAULT. */
        private static int takeGoods(Tape tape, Land land) {
            int bits = 0;
            for (int i = 0; i <= MOST_GOODS && tape.isName(); i++) {
                int good = takeTold(tape, land.goodNames, land.goods, bits);
                if (good == NONE) {
                    return NONE;
                }
                bits |= 1 << good;
            }
            return bits;
        }
    }

    /** The RULE: its lines one behind the other, what an operator joins ahead of it. */
    private static final class Rule {
        // a step below FACT is a NUMBER, below OPERATOR a fact, else not or what joins two
        private static final int FACT = 10000;
        private static final int OPERATOR = 20000;

        private final int[] steps = new int[MOST_SIGNS];
        private final int[] ends = new int[MOST_LINES];
        private int length;
        private int lines;
        // five E within one another, each with four operators that wait, need no more
        private final int[] stack = new int[32];

        private void clear() {
            length = 0;
            lines = 0;
        }

        private void put(int step) {
            if (length < steps.length) {
                steps[length] = step;
                length++;
            }
        }

        private void endLine() {
            if (lines < ends.length) {
                ends[lines] = length;
                lines++;
            }
        }

        private boolean allows(int[] facts) {
            if (lines == 0) {
                return facts[OWN] == 1 || facts[FREE] == 1;
            }
            int from = 0;
            for (int line = 0; line < lines; line++) {
                if (valueOf(from, ends[line], facts) != 0) {
                    return true;
                }
                from = ends[line];
            }
            return false;
        }

        private int valueOf(int from, int to, int[] facts) {
            int top = 0;
            for (int i = from; i < to; i++) {
                int step = steps[i];
                if (step < OPERATOR && top < stack.length) {
                    stack[top] = step < FACT ? step : facts[step - FACT];
                    top++;
                } else if (step == OPERATOR + NOT && top > 0) {
                    stack[top - 1] = stack[top - 1] == 0 ? 1 : 0;
                } else if (top > 1) {
                    top--;
                    stack[top - 1] = joined(step - OPERATOR, stack[top - 1], stack[top]);
                }
            }
            return stack[0];
        }

        private static int joined(int operator, int a, int b) {
            switch (operator) {
                case AND:
                    return a != 0 && b != 0 ? 1 : 0;
                case OR:
                    return a != 0 || b != 0 ? 1 : 0;
                case '<':
                    return a < b ? 1 : 0;
                case '=':
                    return a == b ? 1 : 0;
                case '+':
                    return a + b;
                case '-':
                    return a - b;
                default:
                    return a * b;
            }
        }
    }

    /** Reads a RULE from the TAPE. */
    private static final class RuleReader {
        private static final int WHOLE = 0;
        private static final int TEST = 1;
        private static final int SUM = 2;
        private static final int PRODUCT = 3;

        private static int read(Tape tape, Rule rule) {
            rule.clear();
            tape.open();
            for (int i = 0; i < MOST_SIGNS && tape.kind != Tape.END; i++) {
                if (!readLine(tape, rule)) {
                    break;
                }
            }
            return tape.close();
        }

        private static boolean readLine(Tape tape, Rule rule) {
            if (tape.kind == LAWFUL && rule.lines >= MOST_LINES) {
                return tape.wrong(TOO_MANY);
            }
            if (!tape.take(LAWFUL) || !tape.take(WHEN)) {
                return false;
            }
            if (!readJoined(tape, rule, WHOLE, 0) || !tape.take(';')) {
                return false;
            }
            rule.endLine();
            return true;
        }

        /** E, TEST, SUM, PRODUCT: each joins some of the next level, which are PARTS at last. */
        private static boolean readJoined(Tape tape, Rule rule, int level, int depth) {
            if (level > PRODUCT) {
                return readPart(tape, rule, depth);
            }
            if (!readJoined(tape, rule, level + 1, depth)) {
                return false;
            }
            int most = level == TEST ? 1 : MOST_SIGNS;
            for (int i = 0; i < most && joins(tape.kind, level); i++) {
                int operator = tape.kind;
                tape.advance();
                if (!readJoined(tape, rule, level + 1, depth)) {
                    return false;
                }
                rule.put(Rule.OPERATOR + operator);
            }
            return true;
        }

        private static boolean joins(int kind, int level) {
            switch (level) {
                case WHOLE:
                    return kind == AND || kind == OR;
                case TEST:
                    return kind == '<' || kind == '=';
                case SUM:
                    return kind == '+' || kind == '-';
                default:
                    return kind == '*';
            }
        }

        private static boolean readPart(Tape tape, Rule rule, int depth) {
            int kind = tape.kind;
            boolean number = kind == Tape.NUMBER;
            if (!number && !isFact(kind) && kind != NOT && kind != '(') {
                return tape.wrong(CANT_STAND);
            }
            if (depth >= MOST_DEPTH) {
                return tape.wrong(TOO_MANY);
            }
            int step = number ? (int) tape.value : Rule.FACT + kind;
            tape.advance();
            if (kind == '(') {
                return readJoined(tape, rule, WHOLE, depth + 1) && tape.take(')');
            }
            if (kind == NOT) {
                step = Rule.OPERATOR + NOT;
                if (!readPart(tape, rule, depth + 1)) {
                    return false;
                }
            }
            rule.put(step);
            return true;
        }

        private static boolean isFact(int kind) {
            return kind == GOOD || kind == HOURS || kind >= OWN && kind < ALL_WORDS;
        }
    }

    /** THINGS, CLOCKS, where all are, what is LIFTED: all that a MARK holds. */
    private static final class Week {
        private int things;
        private int lifted;
        private final int[] good = new int[MOST_THINGS];
        private final int[] sort = new int[MOST_THINGS];
        private final int[] makers = new int[MOST_THINGS];
        private final int[] holder = new int[MOST_THINGS];
        private final int[] done = new int[MOST_THINGS];
        private final int[] clock = new int[MOST_PEOPLE];
        private final int[] place = new int[MOST_PEOPLE];

        private void begin(Land land) {
            things = 0;
            lifted = 0;
            for (int i = 0; i < land.people; i++) {
                clock[i] = 0;
                place[i] = land.home[i];
            }
        }

        private void copy(Week other) {
            things = other.things;
            lifted = other.lifted;
            System.arraycopy(other.good, 0, good, 0, MOST_THINGS);
            System.arraycopy(other.sort, 0, sort, 0, MOST_THINGS);
            System.arraycopy(other.makers, 0, makers, 0, MOST_THINGS);
            System.arraycopy(other.holder, 0, holder, 0, MOST_THINGS);
            System.arraycopy(other.done, 0, done, 0, MOST_THINGS);
            System.arraycopy(other.clock, 0, clock, 0, MOST_PEOPLE);
            System.arraycopy(other.place, 0, place, 0, MOST_PEOPLE);
        }

        private int laterClock(int a, int b) {
            return Math.max(clock[a], clock[b]);
        }

        private void setClocks(int a, int b, int hour) {
            clock[a] = hour;
            clock[b] = hour;
        }

        private void add(int ofGood, int ofSort, int by, int person, int hour) {
            if (things < MOST_THINGS) {
                good[things] = ofGood;
                sort[things] = ofSort;
                makers[things] = by;
                holder[things] = person;
                done[things] = hour;
                things++;
            }
        }

        private int firstHeld(int person, int ofGood) {
            for (int i = 0; i < things; i++) {
                if (holder[i] == person && good[i] == ofGood) {
                    return i;
                }
            }
            return NONE;
        }

        private boolean holdsOfEach(int person, int goods) {
            for (int each = 0; each < MOST_GOODS; each++) {
                if ((goods >> each & 1) == 1 && firstHeld(person, each) == NONE) {
                    return false;
                }
            }
            return true;
        }

        private void useUp(int person, int goods) {
            for (int each = 0; each < MOST_GOODS; each++) {
                int thing = (goods >> each & 1) == 1 ? firstHeld(person, each) : NONE;
                if (thing != NONE) {
                    holder[thing] = NONE;
                }
            }
        }

        private int held(int person, int ofGood) {
            int many = 0;
            for (int i = 0; i < things; i++) {
                many += holder[i] == person && good[i] == ofGood ? 1 : 0;
            }
            return many;
        }

        private int heldBy(int person) {
            int many = 0;
            for (int i = 0; i < things; i++) {
                many += holder[i] == person ? 1 : 0;
            }
            return many;
        }

        private int heldAtAll() {
            return things - heldBy(NONE);
        }
    }

    /** The best ROUND of each set of some PEOPLE, and the MOST of each set. */
    private static final class Rounds {
        // GOODS as bits that one may give another, at giver * MOST_PEOPLE + receiver
        private final int[] gifts = new int[MOST_PEOPLE * MOST_PEOPLE];
        // at person * MOST_GOODS + GOOD: how many are held, what one more is worth, and the last one
        private final int[] held = new int[MOST_PEOPLE * MOST_GOODS];
        private final int[] more = new int[MOST_PEOPLE * MOST_GOODS];
        private final int[] last = new int[MOST_PEOPLE * MOST_GOODS];
        // there, too: GOODS as bits, one of which is given gladly for one of this
        private final int[] glad = new int[MOST_PEOPLE * MOST_GOODS];
        private final int[] best = new int[SETS];
        private final int[] worth = new int[SETS];
        private final int[] many = new int[SETS];
        private final int[] within = new int[SETS];

        private void clear() {
            Arrays.fill(gifts, 0);
            Arrays.fill(held, 0);
            Arrays.fill(best, NONE);
            Arrays.fill(worth, 0);
            Arrays.fill(many, 0);
            Arrays.fill(within, 0);
        }

        private void hold(int person, int good) {
            held[person * MOST_GOODS + good]++;
        }

        private void allow(int giver, int receiver, int goods) {
            gifts[giver * MOST_PEOPLE + receiver] |= goods;
        }

        private boolean mayGive(int giver, int receiver, int good) {
            return (gifts[giver * MOST_PEOPLE + receiver] >> good & 1) == 1;
        }

        private void find(Land land, int among) {
            for (int i = 0; i < land.people; i++) {
                weigh(land, i);
            }
            boolean any = false;
            for (int first = 0; first < land.people; first++) {
                any |= (among >> first & 1) == 1 && startRings(first);
            }
            for (int set = 1; any && set <= among; set++) {
                if ((set & ~among) == 0) {
                    findMost(set);
                }
            }
        }

        private void weigh(Land land, int person) {
            int row = person * MOST_GOODS;
            for (int good = 0; good < land.goods; good++) {
                more[row + good] = land.worthOf(person, good, held[row + good]);
                last[row + good] = land.worthOf(person, good, held[row + good] - 1);
            }
            for (int got = 0; got < land.goods; got++) {
                int bits = 0;
                for (int given = 0; given < land.goods; given++) {
                    boolean gladly = given != got && more[row + got] > last[row + given];
                    bits |= gladly ? 1 << given : 0;
                }
                glad[row + got] = bits;
            }
        }

        /** The rings whose one of the least number is the first; whether there is one. */
        private boolean startRings(int first) {
            boolean any = false;
            for (int next = first + 1; next < MOST_PEOPLE; next++) {
                int goods = gifts[first * MOST_PEOPLE + next];
                for (int good = 0; good < MOST_GOODS && goods >> good != 0; good++) {
                    if ((goods >> good & 1) == 1) {
                        any |= goOn(this, 1 << first | 1 << next, first, good, next, good, 0);
                    }
                }
            }
            return any;
        }

        /** A ring began with what the first one gave, and has come to one who got something. */
        private static boolean goOn(Rounds in, int ring, int first, int gave, int one, int got, int gain) {
            int gladly = in.glad[one * MOST_GOODS + got];
            int now = gain + in.more[one * MOST_GOODS + got];
            boolean any = in.closeRing(ring, first, gave, gladly & in.gifts[one * MOST_PEOPLE + first], one, now);
            if (Integer.bitCount(ring) >= MOST_RING) {
                return any;
            }
            for (int next = first + 1; next < MOST_PEOPLE; next++) {
                int goods = (ring >> next & 1) == 1 ? 0 : gladly & in.gifts[one * MOST_PEOPLE + next];
                for (int good = 0; good < MOST_GOODS && goods >> good != 0; good++) {
                    if ((goods >> good & 1) == 1) {
                        int left = now - in.last[one * MOST_GOODS + good];
                        any |= goOn(in, ring | 1 << next, first, gave, next, good, left);
                    }
                }
            }
            return any;
        }

        /** The last one gives one of some GOODS to the first one, if that is one's gain. */
        private boolean closeRing(int ring, int first, int gave, int goods, int one, int gain) {
            boolean any = false;
            int row = first * MOST_GOODS;
            for (int good = 0; good < MOST_GOODS && goods >> good != 0; good++) {
                if ((goods >> good & 1) == 1 && (glad[row + good] >> gave & 1) == 1) {
                    int own = more[row + good] - last[row + gave];
                    best[ring] = Math.max(best[ring], gain - last[one * MOST_GOODS + good] + own);
                    any = true;
                }
            }
            return any;
        }

        private void findMost(int set) {
            int low = set & -set;
            int rest = set ^ low;
            worth[set] = worth[rest];
            many[set] = many[rest];
            within[set] = within[rest];
            for (int part = rest; part > 0; part = (part - 1) & rest) {
                if (best[part | low] != NONE) {
                    offerRound(set, part | low);
                }
            }
        }

        private void offerRound(int set, int ring) {
            int newWorth = best[ring] + worth[set ^ ring];
            int newMany = 1 + many[set ^ ring];
            int newWithin = Integer.bitCount(ring) + within[set ^ ring];
            boolean fewer = newMany < many[set] || newMany == many[set] && newWithin < within[set];
            if (newWorth > worth[set] || newWorth == worth[set] && fewer) {
                worth[set] = newWorth;
                many[set] = newMany;
                within[set] = newWithin;
            }
        }

        private int shortestIn(int set) {
            int shortest = NONE;
            for (int ring = set; ring > 0; ring = (ring - 1) & set) {
                int size = Integer.bitCount(ring);
                if (best[ring] != NONE && (shortest == NONE || size < shortest)) {
                    shortest = size;
                }
            }
            return shortest;
        }

        private int pairsOf(int person) {
            int pairs = 0;
            for (int i = 0; i < MOST_PEOPLE; i++) {
                pairs += i != person && best[1 << person | 1 << i] != NONE ? 1 : 0;
            }
            return pairs;
        }
    }

    /** Who should LIVE beside whom. */
    private static final class Homes {
        // at k, set: what a set comes to on just k PLACES, nobody's PLACE left out; NONE: it can't be
        private final int[][] sums = new int[MOST_PLACES + 1][SETS];
        private int all;
        private int size;
        private int places;
        private int most;
        private int fewest;

        private void fill(int[] worth, int everybody, int atMost, int placesTold) {
            all = everybody;
            size = atMost;
            places = placesTold;
            most = NONE;
            fewest = NONE;
            Arrays.fill(sums[0], NONE);
            sums[0][0] = 0;
            for (int k = 1; k <= places; k++) {
                sums[k][0] = NONE;
                for (int set = 1; set <= all; set++) {
                    sums[k][set] = bestSplit(worth, k, set);
                }
                if (sums[k][all] > most) {
                    most = sums[k][all];
                    fewest = k;
                }
            }
        }

        private int bestSplit(int[] worth, int k, int set) {
            int best = NONE;
            int low = set & -set;
            int rest = set ^ low;
            for (int part = rest; part >= 0; part = part == 0 ? NONE : (part - 1) & rest) {
                best = Math.max(best, withGroup(worth, k, set, part | low));
            }
            return best;
        }

        /** What a set comes to if the group lives on one of k PLACES. */
        private int withGroup(int[] worth, int k, int set, int group) {
            int others = sums[k - 1][set ^ group];
            return Integer.bitCount(group) > size || others == NONE ? NONE : others + worth[group];
        }

        private boolean together(int[] worth, int two) {
            int rest = all ^ two;
            for (int part = rest; part >= 0; part = part == 0 ? NONE : (part - 1) & rest) {
                for (int k = 1; k <= places; k++) {
                    if (withGroup(worth, k, all, part | two) == most) {
                        return true;
                    }
                }
            }
            return false;
        }
    }
}
