import java.util.ArrayList;
import java.util.Arrays;
import java.util.List;
import java.util.NoSuchElementException;
import java.util.TreeSet;

/** The document once more, written as plainly as it goes and without a thought of cost: OwnMade is compared with it. */
final class Plain {
    private static final List<String> NO_NAMES = List.of("place", "way", "good", "hours", "from", "person", "at", "makes", "wants");
    private static final List<String> FACTS = List.of("own", "part", "sort", "door", "hours", "away", "good", "free");

    private static final class Fault extends RuntimeException {
        private static final long serialVersionUID = 1;
        private final int code;

        private Fault(int code) {
            this.code = code;
        }
    }

    /** kind: w a word, n a number, s a sign, b none, e the end. */
    private record Token(char kind, String text, int place) {
    }

    private interface Expr {
        int value(int[] facts);
    }

    private static final class Good {
        private int hours;
        private final List<Integer> from = new ArrayList<>();
    }

    private static final class Person {
        private int home;
        private final List<Integer> makes = new ArrayList<>();
        private final int[][] worths = new int[6][3];
    }

    private static final class Country {
        private final List<String> placeNames = new ArrayList<>();
        private final List<String> goodNames = new ArrayList<>();
        private final List<String> personNames = new ArrayList<>();
        private final List<Good> goods = new ArrayList<>();
        private final List<Person> people = new ArrayList<>();
        private final int[][] direct = new int[5][5];

        private boolean told(String name) {
            return placeNames.contains(name) || goodNames.contains(name) || personNames.contains(name);
        }
    }

    private record Thing(int good, int sort, TreeSet<Integer> makers, int holder, int done) {
        private Thing heldBy(int other) {
            return new Thing(good, sort, makers, other, done);
        }
    }

    private record State(List<Thing> things, int[] clock, int[] place, boolean[] lifted) {
        private State copy() {
            return new State(new ArrayList<>(things), clock.clone(), place.clone(), lifted.clone());
        }
    }

    private String tape = "";
    private Country country = new Country();
    private List<Expr> lines = new ArrayList<>();
    private State now = new State(new ArrayList<>(), new int[8], new int[8], new boolean[6]);
    private final State[] marks = new State[4];
    private Trade lastTrade;
    private Country lastCountry;
    private List<Expr> lastLines;

    // ---- reading ----

    private List<Token> tokens;
    private int next;

    private void scan() {
        tokens = new ArrayList<>();
        next = 0;
        int i = 0;
        while (i < tape.length()) {
            char c = tape.charAt(i);
            int j = i;
            if (c == ' ' || c == '\n') {
                i++;
            } else if (c >= 'a' && c <= 'z') {
                while (j < tape.length() && tape.charAt(j) >= 'a' && tape.charAt(j) <= 'z') {
                    j++;
                }
                tokens.add(new Token(j - i > 8 ? 'b' : 'w', tape.substring(i, j), i));
                i = j;
            } else if (c >= '0' && c <= '9') {
                while (j < tape.length() && tape.charAt(j) >= '0' && tape.charAt(j) <= '9') {
                    j++;
                }
                tokens.add(new Token(j - i > 4 ? 'b' : 'n', tape.substring(i, j), i));
                i = j;
            } else {
                tokens.add(new Token("()<=+-*;".indexOf(c) < 0 ? 'b' : 's', "" + c, i));
                i++;
            }
        }
        tokens.add(new Token('e', "", tape.length()));
        tape = "";
    }

    private Token peek() {
        return tokens.get(next);
    }

    private boolean sees(String text) {
        return (peek().kind == 'w' || peek().kind == 's') && peek().text.equals(text);
    }

    private Fault fault(int kind) {
        return new Fault(kind + 16 * peek().place);
    }

    private void need(String text) {
        if (!sees(text)) {
            throw fault(1);
        }
        next++;
    }

    private boolean seesName() {
        return peek().kind == 'w' && !NO_NAMES.contains(peek().text);
    }

    private String newName(Country c) {
        if (!seesName()) {
            throw fault(1);
        }
        if (c.told(peek().text)) {
            throw fault(3);
        }
        return tokens.get(next++).text;
    }

    private int oldName(List<String> names, List<Integer> taken) {
        if (!seesName()) {
            throw fault(1);
        }
        int index = names.indexOf(peek().text);
        if (index < 0) {
            throw fault(2);
        }
        if (taken.contains(index)) {
            throw fault(3);
        }
        next++;
        return index;
    }

    private int number(int low, int high) {
        if (peek().kind != 'n') {
            throw fault(1);
        }
        int n = Integer.parseInt(peek().text);
        if (n < low || n > high) {
            throw fault(4);
        }
        next++;
        return n;
    }

    int feed(long a, long b, long c) {
        StringBuilder more = new StringBuilder(tape);
        for (long part : new long[] {a, b, c}) {
            for (int i = 7; i >= 0; i--) {
                int sign = (int) (part >> 8 * i & 0xff);
                if ((sign == 10 || sign >= 32 && sign <= 126) && more.length() < 1000) {
                    more.append((char) sign);
                }
            }
        }
        tape = more.toString();
        return tape.length();
    }

    int land() {
        Country c = new Country();
        for (int[] row : c.direct) {
            Arrays.fill(row, -1);
        }
        try {
            scan();
            while (peek().kind != 'e') {
                readLandLine(c);
            }
        } catch (Fault f) {
            return f.code;
        }
        country = c;
        int[] home = new int[8];
        for (int i = 0; i < c.people.size(); i++) {
            home[i] = c.people.get(i).home;
        }
        now = new State(new ArrayList<>(), new int[8], home, new boolean[6]);
        Arrays.fill(marks, null);
        return 0;
    }

    private void readLandLine(Country c) {
        if (sees("place")) {
            if (c.placeNames.size() == 5) {
                throw fault(5);
            }
            next++;
            String name = newName(c);
            need(";");
            c.placeNames.add(name);
        } else if (sees("way")) {
            next++;
            int a = oldName(c.placeNames, List.of());
            int b = oldName(c.placeNames, List.of(a));
            int hours = number(1, 24);
            need(";");
            c.direct[a][b] = hours;
            c.direct[b][a] = hours;
        } else if (sees("good")) {
            if (c.goodNames.size() == 6) {
                throw fault(5);
            }
            next++;
            String name = newName(c);
            need("hours");
            Good good = new Good();
            good.hours = number(1, 24);
            if (sees("from")) {
                next++;
                do {
                    good.from.add(oldName(c.goodNames, good.from));
                } while (seesName());
            }
            need(";");
            c.goodNames.add(name);
            c.goods.add(good);
        } else if (sees("person")) {
            if (c.personNames.size() == 8) {
                throw fault(5);
            }
            next++;
            readPerson(c);
        } else {
            throw fault(1);
        }
    }

    private void readPerson(Country c) {
        String name = newName(c);
        need("at");
        Person person = new Person();
        person.home = oldName(c.placeNames, List.of());
        need("makes");
        while (seesName()) {
            person.makes.add(oldName(c.goodNames, person.makes));
        }
        List<Integer> wanted = new ArrayList<>();
        while (sees("wants")) {
            next++;
            int good = oldName(c.goodNames, wanted);
            wanted.add(good);
            int[] worths = person.worths[good];
            worths[0] = number(0, 999);
            if (peek().kind == 'n') {
                worths[1] = number(0, worths[0]);
                if (peek().kind == 'n') {
                    worths[2] = number(0, worths[1]);
                }
            }
        }
        need(";");
        c.personNames.add(name);
        c.people.add(person);
    }

    int rule() {
        List<Expr> told = new ArrayList<>();
        try {
            scan();
            while (peek().kind != 'e') {
                if (sees("lawful") && told.size() == 6) {
                    throw fault(5);
                }
                need("lawful");
                need("when");
                told.add(expr(0));
                need(";");
            }
        } catch (Fault f) {
            return f.code;
        }
        lines = told;
        return 0;
    }

    private Expr expr(int depth) {
        Expr left = test(depth);
        while (sees("and") || sees("or")) {
            boolean and = sees("and");
            next++;
            Expr a = left;
            Expr b = test(depth);
            left = f -> (and ? a.value(f) != 0 && b.value(f) != 0 : a.value(f) != 0 || b.value(f) != 0) ? 1 : 0;
        }
        return left;
    }

    private Expr test(int depth) {
        Expr a = sum(depth);
        if (sees("<")) {
            next++;
            Expr b = sum(depth);
            return f -> a.value(f) < b.value(f) ? 1 : 0;
        }
        if (sees("=")) {
            next++;
            Expr b = sum(depth);
            return f -> a.value(f) == b.value(f) ? 1 : 0;
        }
        return a;
    }

    private Expr sum(int depth) {
        Expr left = product(depth);
        while (sees("+") || sees("-")) {
            boolean plus = sees("+");
            next++;
            Expr a = left;
            Expr b = product(depth);
            left = f -> plus ? a.value(f) + b.value(f) : a.value(f) - b.value(f);
        }
        return left;
    }

    private Expr product(int depth) {
        Expr left = part(depth);
        while (sees("*")) {
            next++;
            Expr a = left;
            Expr b = part(depth);
            left = f -> a.value(f) * b.value(f);
        }
        return left;
    }

    private Expr part(int depth) {
        int fact = peek().kind == 'w' ? FACTS.indexOf(peek().text) : -1;
        boolean number = peek().kind == 'n';
        if (!number && fact < 0 && !sees("not") && !sees("(")) {
            throw fault(1);
        }
        if (depth == 5) {
            throw fault(5);
        }
        if (number) {
            int n = Integer.parseInt(tokens.get(next++).text);
            return f -> n;
        }
        if (fact >= 0) {
            next++;
            return f -> f[fact];
        }
        if (sees("not")) {
            next++;
            Expr a = part(depth + 1);
            return f -> a.value(f) == 0 ? 1 : 0;
        }
        next++;
        Expr a = expr(depth + 1);
        need(")");
        return a;
    }

    // ---- what is there ----

    private int people() {
        return country.people.size();
    }

    private int places() {
        return country.placeNames.size();
    }

    private int goods() {
        return country.goods.size();
    }

    private boolean isPerson(int i) {
        return i >= 0 && i < people();
    }

    private boolean isSet(int set) {
        return set >= 0 && set < 1 << people();
    }

    /** All ways are walked that come to no PLACE twice. */
    private int shortest(int a, int b, int been) {
        if (a == b) {
            return 0;
        }
        int best = -1;
        for (int c = 0; c < places(); c++) {
            if (country.direct[a][c] > 0 && (been >> c & 1) == 0) {
                int rest = shortest(c, b, been | 1 << c);
                if (rest >= 0 && (best < 0 || rest + country.direct[a][c] < best)) {
                    best = rest + country.direct[a][c];
                }
            }
        }
        return best;
    }

    int way(int a, int b) {
        boolean there = a >= 0 && a < places() && b >= 0 && b < places();
        return there ? shortest(a, b, 1 << a) : -1;
    }

    private static int bits(Iterable<Integer> numbers) {
        int bits = 0;
        for (int n : numbers) {
            bits |= 1 << n;
        }
        return bits;
    }

    private int makers(int good) {
        int bits = 0;
        for (int i = 0; i < people(); i++) {
            bits |= country.people.get(i).makes.contains(good) ? 1 << i : 0;
        }
        return bits;
    }

    int good(int good, int what) {
        if (good < 0 || good >= goods()) {
            return -1;
        }
        return what == 0 ? country.goods.get(good).hours : what == 1 ? bits(country.goods.get(good).from)
                : what == 2 ? makers(good) : -1;
    }

    int worth(int person, int good, int k) {
        return isPerson(person) && good >= 0 && good < goods() && k >= 0 && k < 3
                ? country.people.get(person).worths[good][k] : -1;
    }

    private int happy(List<Thing> things, int person) {
        int sum = 0;
        for (int good = 0; good < goods(); good++) {
            int many = 0;
            for (Thing t : things) {
                many += t.holder == person && t.good == good ? 1 : 0;
            }
            for (int k = 0; k < Math.min(many, 3); k++) {
                sum += country.people.get(person).worths[good][k];
            }
        }
        return sum;
    }

    int person(int person, int what) {
        if (!isPerson(person)) {
            return -1;
        }
        return switch (what) {
            case 0 -> country.people.get(person).home;
            case 1 -> now.place[person];
            case 2 -> now.clock[person];
            case 3 -> happy(now.things, person);
            case 4 -> (int) now.things.stream().filter(t -> t.holder == person).count();
            case 5 -> bits(country.people.get(person).makes);
            default -> -1;
        };
    }

    // ---- the week ----

    private int heldLeast(int person, int good) {
        for (int i = 0; i < now.things.size(); i++) {
            if (now.things.get(i).holder == person && now.things.get(i).good == good) {
                return i;
            }
        }
        return -1;
    }

    int make(int person, int other, int good, int sort) {
        if (!isPerson(person) || other != -1 && !isPerson(other) || other == person || good < 0 || good >= goods()
                || sort < 0 || sort > 3) {
            return 1;
        }
        int begin = other < 0 ? now.clock[person] : Math.max(now.clock[person], now.clock[other]);
        int end = begin + country.goods.get(good).hours;
        if (end > 168) {
            return 2;
        }
        boolean made = country.people.get(person).makes.contains(good)
                || other >= 0 && country.people.get(other).makes.contains(good);
        for (int part : country.goods.get(good).from) {
            made &= heldLeast(person, part) >= 0;
        }
        if (!made) {
            return 3;
        }
        if (other >= 0 && now.place[person] != now.place[other]) {
            return 4;
        }
        if (now.things.size() == 40) {
            return 7;
        }
        for (int part : country.goods.get(good).from) {
            int used = heldLeast(person, part);
            now.things.set(used, now.things.get(used).heldBy(-1));
        }
        TreeSet<Integer> makers = new TreeSet<>(List.of(person));
        now.clock[person] = end;
        if (other >= 0) {
            makers.add(other);
            now.clock[other] = end;
        }
        now.things.add(new Thing(good, sort, makers, person, end));
        return 0;
    }

    int go(int person, int place) {
        if (!isPerson(person) || place < 0 || place >= places()) {
            return 1;
        }
        int way = way(now.place[person], place);
        if (way < 0 || now.clock[person] + way > 168) {
            return 2;
        }
        now.clock[person] += way;
        now.place[person] = place;
        return 0;
    }

    private boolean noSuchGift(int giver, int receiver, int thing) {
        return !isPerson(giver) || !isPerson(receiver) || giver == receiver || thing < 0 || thing >= now.things.size();
    }

    int give(int giver, int receiver, int thing) {
        if (noSuchGift(giver, receiver, thing)) {
            return 1;
        }
        if (now.place[giver] != now.place[receiver]) {
            return 4;
        }
        if (now.things.get(thing).holder != giver) {
            return 5;
        }
        if (lawful(giver, receiver, thing) != 1) {
            return 6;
        }
        now.clock[giver] = Math.max(now.clock[giver], now.clock[receiver]);
        now.clock[receiver] = now.clock[giver];
        now.things.set(thing, now.things.get(thing).heldBy(receiver));
        return 0;
    }

    int thing(int thing, int what) {
        if (thing < 0 || thing >= now.things.size() || what < 0 || what > 4) {
            throw new NoSuchElementException();
        }
        Thing t = now.things.get(thing);
        return List.of(t.good, t.sort, bits(t.makers), t.holder, t.done).get(what);
    }

    private boolean law(int giver, int receiver, Thing t, boolean door, boolean[] lifted) {
        boolean own = t.makers.equals(new TreeSet<>(List.of(giver)));
        boolean free = lifted[t.good];
        if (lines.isEmpty()) {
            return own || free;
        }
        int away = way(country.people.get(giver).home, country.people.get(receiver).home);
        int[] facts = {own ? 1 : 0, t.makers.contains(giver) ? 1 : 0, t.sort, door ? 1 : 0,
            country.goods.get(t.good).hours, away < 0 ? 999 : away, t.good, free ? 1 : 0};
        for (Expr line : lines) {
            if (line.value(facts) != 0) {
                return true;
            }
        }
        return false;
    }

    int lawful(int giver, int receiver, int thing) {
        if (noSuchGift(giver, receiver, thing) || now.things.get(thing).holder != giver) {
            return -1;
        }
        boolean door = now.place[giver] == country.people.get(giver).home;
        return law(giver, receiver, now.things.get(thing), door, now.lifted) ? 1 : 0;
    }

    // ---- rounds: every ring of every set, every THING ----

    private final class Trade {
        private final List<Thing> things;
        private final int doors;
        private final boolean[] lifted;
        private final int[] known = new int[256];
        private final int[][] mosts = new int[256][];

        private Trade(List<Thing> things, int doors, boolean[] lifted) {
            this.things = things;
            this.doors = doors;
            this.lifted = lifted;
            Arrays.fill(known, -2);
        }

        private int best(int set) {
            if (known[set] == -2) {
                known[set] = Integer.bitCount(set) < 2 || Integer.bitCount(set) > 5 ? -1
                        : order(set, new ArrayList<>(), set & -set);
            }
            return known[set];
        }

        private int order(int set, List<Integer> ring, int onlyNow) {
            if (ring.size() == Integer.bitCount(set)) {
                return choose(ring, new ArrayList<>());
            }
            int best = -1;
            for (int i = 0; i < 8; i++) {
                if (((set & onlyNow) >> i & 1) == 1 && !ring.contains(i)) {
                    ring.add(i);
                    best = Math.max(best, order(set, ring, -1));
                    ring.remove(ring.size() - 1);
                }
            }
            return best;
        }

        private int choose(List<Integer> ring, List<Integer> given) {
            if (given.size() == ring.size()) {
                return gain(ring, given);
            }
            int giver = ring.get(given.size());
            int receiver = ring.get((given.size() + 1) % ring.size());
            int best = -1;
            TreeSet<Integer> tried = new TreeSet<>();
            for (int i = 0; i < things.size(); i++) {
                Thing t = things.get(i);
                // THINGS of one GOOD that may be given do the same
                if (t.holder == giver && !tried.contains(t.good)
                        && law(giver, receiver, t, (doors >> giver & 1) == 1, lifted)) {
                    tried.add(t.good);
                    given.add(i);
                    best = Math.max(best, choose(ring, given));
                    given.remove(given.size() - 1);
                }
            }
            return best;
        }

        private int gain(List<Integer> ring, List<Integer> given) {
            List<Thing> after = new ArrayList<>(things);
            for (int i = 0; i < ring.size(); i++) {
                after.set(given.get(i), things.get(given.get(i)).heldBy(ring.get((i + 1) % ring.size())));
            }
            int sum = 0;
            for (int one : ring) {
                int more = happy(after, one) - happy(things, one);
                if (more <= 0) {
                    return -1;
                }
                sum += more;
            }
            return sum;
        }

        /** Worth, rounds, people of the best of all ways to part a set. */
        private int[] most(int set) {
            if (mosts[set] == null) {
                mosts[set] = findMost(set);
            }
            return mosts[set];
        }

        private int[] findMost(int set) {
            if (set == 0) {
                return new int[3];
            }
            int low = set & -set;
            int[] best = most(set ^ low);
            for (int ring = 1; ring <= set; ring++) {
                if ((ring & ~set) == 0 && (ring & low) != 0 && best(ring) >= 0) {
                    int[] rest = most(set ^ ring);
                    int[] all = {rest[0] + best(ring), rest[1] + 1, rest[2] + Integer.bitCount(ring)};
                    if (all[0] > best[0] || all[0] == best[0] && (all[1] < best[1]
                            || all[1] == best[1] && all[2] < best[2])) {
                        best = all;
                    }
                }
            }
            return best;
        }
    }

    /** Kept as long as nothing of it is another. */
    private Trade trade() {
        boolean same = lastTrade != null && lastCountry == country && lastLines == lines
                && lastTrade.things.equals(now.things) && Arrays.equals(lastTrade.lifted, now.lifted);
        if (!same) {
            lastTrade = new Trade(new ArrayList<>(now.things), 0, now.lifted.clone());
            lastCountry = country;
            lastLines = lines;
        }
        return lastTrade;
    }

    private int all() {
        return (1 << people()) - 1;
    }

    int round(int set) {
        return isSet(set) ? trade().best(set) : -1;
    }

    int most(int set, int what) {
        return isSet(set) && what >= 0 && what <= 2 ? trade().most(set)[what] : -1;
    }

    int at(int place) {
        if (place < 0 || place >= places()) {
            return -1;
        }
        int there = 0;
        int doors = 0;
        for (int i = 0; i < people(); i++) {
            there |= now.place[i] == place ? 1 << i : 0;
            doors |= country.people.get(i).home == place ? 1 << i : 0;
        }
        return new Trade(now.things, doors, now.lifted).most(there)[0];
    }

    int length(int set) {
        if (!isSet(set)) {
            return -1;
        }
        Trade trade = trade();
        for (int size = 2; size <= 5; size++) {
            for (int part = 0; part <= set; part++) {
                if ((part & ~set) == 0 && Integer.bitCount(part) == size && trade.best(part) >= 0) {
                    return size;
                }
            }
        }
        return -1;
    }

    /** Every way to put all on PLACES: the best sum, the fewest PLACES, and who is once together with whom. */
    private int[] living(int many, int a, int b) {
        int[] mosts = new int[256];
        Trade trade = trade();
        for (int set = 0; set <= all(); set++) {
            mosts[set] = trade.most(set)[0];
        }
        int[] best = {-1, 0, 0};
        put(0, new int[places()], many, mosts, a < 0 ? 0 : 1 << a | 1 << b, best);
        return best;
    }

    private void put(int person, int[] groups, int many, int[] mosts, int pair, int[] best) {
        if (person == people()) {
            int sum = 0;
            int used = 0;
            int together = 0;
            for (int group : groups) {
                sum += mosts[group];
                used += group != 0 ? 1 : 0;
                together |= (group & pair) == pair ? 1 : 0;
            }
            if (sum > best[0]) {
                best[0] = sum;
                best[1] = used;
                best[2] = together;
            } else if (sum == best[0]) {
                best[1] = Math.min(best[1], used);
                best[2] |= together;
            }
            return;
        }
        for (int i = 0; i < groups.length; i++) {
            if (Integer.bitCount(groups[i]) < many) {
                groups[i] |= 1 << person;
                put(person + 1, groups, many, mosts, pair, best);
                groups[i] &= ~(1 << person);
            }
        }
    }

    private boolean noLiving(int many) {
        return many < 1 || many > 8 || people() == 0 || places() * many < people();
    }

    int live(int many, int what) {
        return noLiving(many) || what < 0 || what > 1 ? -1 : living(many, -1, -1)[what];
    }

    int beside(int many, int a, int b) {
        return noLiving(many) || !isPerson(a) || !isPerson(b) || a == b ? -1 : living(many, a, b)[2];
    }

    // ---- sets, fairs ----

    private boolean canHave(int set, int good) {
        for (int part : country.goods.get(good).from) {
            if (!canHave(set, part)) {
                return false;
            }
        }
        return (makers(good) & set) != 0;
    }

    int had(int set) {
        if (!isSet(set)) {
            return -1;
        }
        int bits = 0;
        for (int good = 0; good < goods(); good++) {
            bits |= canHave(set, good) ? 1 << good : 0;
        }
        return bits;
    }

    int never(int set) {
        if (!isSet(set)) {
            return -1;
        }
        int bits = 0;
        for (int i = 0; i < people(); i++) {
            for (int good = 0; good < goods(); good++) {
                boolean wanted = (set >> i & 1) == 1 && country.people.get(i).worths[good][0] > 0;
                bits |= wanted && !canHave(set, good) ? 1 << good : 0;
            }
        }
        return bits;
    }

    int fewest(int person, int what) {
        if (!isPerson(person) || what < 0 || what > 1) {
            return -1;
        }
        for (int size = 1; size <= people(); size++) {
            for (int set = 0; set <= all(); set++) {
                if (Integer.bitCount(set) == size && (set >> person & 1) == 1 && never(set) == 0) {
                    return what == 0 ? size : set;
                }
            }
        }
        return -1;
    }

    int fair(int place, int hours, int price, int what) {
        if (place < 0 || place >= places() || hours < 0 || hours > 168 || price < 0 || price > 99 || what < 0 || what > 1) {
            throw new NoSuchElementException();
        }
        int come = 0;
        int ways = 0;
        for (int i = 0; i < people(); i++) {
            int way = way(country.people.get(i).home, place);
            if (way >= 0 && way + way <= hours) {
                come |= 1 << i;
                ways += way + way;
            }
        }
        return what == 1 ? come : trade().most(come)[0] - ways * price;
    }

    int fairest(int hours, int price) {
        if (hours < 0 || hours > 168 || price < 0 || price > 99) {
            return -1;
        }
        int best = -1;
        for (int place = places() - 1; place >= 0; place--) {
            if (best < 0 || fair(place, hours, price, 0) >= fair(best, hours, price, 0)) {
                best = place;
            }
        }
        return best;
    }

    int far(int person, int good, int price, int what) {
        if (!isPerson(person) || good < 0 || good >= goods() || price < 1 || price > 99 || what < 0 || what > 1) {
            return -1;
        }
        int hours = country.people.get(person).worths[good][0] / price;
        int makers = 0;
        for (int i = 0; i < people(); i++) {
            int way = way(country.people.get(person).home, country.people.get(i).home);
            makers += i != person && country.people.get(i).makes.contains(good) && way >= 0 && 2 * way <= hours ? 1 : 0;
        }
        return what == 0 ? hours : makers;
    }

    // ---- coin, law, lies, years ----

    private int coinOf(int good) {
        List<Integer> worths = new ArrayList<>();
        int held = 0;
        int is = 0;
        for (int i = 0; i < people(); i++) {
            int many = 0;
            for (Thing t : now.things) {
                many += t.holder == i && t.good == good ? 1 : 0;
            }
            held += many;
            for (int k = 0; k < 3; k++) {
                worths.add(-country.people.get(i).worths[good][k]);
                is += k < many ? country.people.get(i).worths[good][k] : 0;
            }
        }
        worths.sort(null);
        int best = 0;
        for (int i = 0; i < Math.min(held, worths.size()); i++) {
            best -= worths.get(i);
        }
        return best - is;
    }

    int coin(int good) {
        if (good < -1 || good >= goods()) {
            return -1;
        }
        int sum = 0;
        for (int i = 0; i < goods(); i++) {
            sum += good == -1 || good == i ? coinOf(i) : 0;
        }
        return sum;
    }

    int lifted(int good, boolean yes) {
        if (good < 0 || good >= goods()) {
            return 0;
        }
        now.lifted[good] = yes;
        return 1;
    }

    int lift(int good) {
        if (good < 0 || good >= goods()) {
            return -1;
        }
        boolean[] with = now.lifted.clone();
        boolean[] without = now.lifted.clone();
        with[good] = true;
        without[good] = false;
        return new Trade(now.things, 0, with).most(all())[0] - new Trade(now.things, 0, without).most(all())[0];
    }

    int lie(int giver, int receiver, int thing, int ten, int fine, int what) {
        if (ten < 0 || ten > 10 || fine < 0 || fine > 9999 || what < 0 || what > 2 || lawful(giver, receiver, thing) != 0) {
            throw new NoSuchElementException();
        }
        List<Thing> after = new ArrayList<>(now.things);
        after.set(thing, after.get(thing).heldBy(receiver));
        int more = happy(after, giver) + happy(after, receiver) - happy(now.things, giver) - happy(now.things, receiver);
        if (what == 2) {
            for (int f = 0; f <= 9999; f++) {
                if ((10 - ten) * more - ten * f <= 0) {
                    return f;
                }
            }
            return -1;
        }
        int above = (10 - ten) * more - ten * fine;
        int below = 10;
        for (int d = 10; d > 1; d--) {
            if (above % d == 0 && below % d == 0) {
                above /= d;
                below /= d;
            }
        }
        return what == 0 ? above : below;
    }

    int years(int seed, int weeks, int what) {
        if (seed < 0 || seed > 9999 || weeks < 1 || weeks > 52 || what < 0 || what > 1) {
            return -1;
        }
        long g = seed;
        int sum = 0;
        int zero = 0;
        for (int week = 0; week < weeks; week++) {
            List<Thing> things = new ArrayList<>();
            for (int i = 0; i < people(); i++) {
                List<Integer> makes = new ArrayList<>(new TreeSet<>(country.people.get(i).makes));
                if (!makes.isEmpty()) {
                    g = (g * 1103515245L + 12345L) % 2147483648L;
                    int drawn = makes.get((int) (g / 65536L % makes.size()));
                    things.add(new Thing(drawn, 0, new TreeSet<>(List.of(i)), i, 0));
                }
            }
            int most = new Trade(things, 0, now.lifted).most(all())[0];
            sum += most;
            zero += most == 0 ? 1 : 0;
        }
        return what == 0 ? sum : zero;
    }

    int visited() {
        Trade trade = trade();
        int best = -1;
        int most = -1;
        for (int i = 0; i < people(); i++) {
            int visits = 0;
            for (int j = 0; j < people(); j++) {
                visits += i != j && trade.best(1 << i | 1 << j) >= 0 ? 1 : 0;
            }
            if (visits > most) {
                best = i;
                most = visits;
            }
        }
        return best;
    }

    int mark(int mark, boolean back) {
        if (mark < 0 || mark > 3 || back && marks[mark] == null) {
            return 0;
        }
        if (back) {
            now = marks[mark].copy();
        } else {
            marks[mark] = now.copy();
        }
        return 1;
    }

    int count(int what) {
        int happy = 0;
        for (int i = 0; i < people(); i++) {
            happy += happy(now.things, i);
        }
        int held = (int) now.things.stream().filter(t -> t.holder >= 0).count();
        return what < 0 || what > 7 ? -1 : List.of(places(), goods(), people(), now.things.size(), held,
                lines.size(), tape.length(), happy).get(what);
    }
}
