import java.math.BigInteger;

/** The boundaries of Terms, part 5, and of promises 26 to 30, 32, 33, sentence by sentence: coin, law, lies, years, marks. */
final class LawBoundsTest {
    private static final String LAND = "place a;place b;place c;way a b 2;good u hours 1;good v hours 1;good w hours 1 from v;"
            + "person k at a makes u w wants v 5 wants u 3 1;person l at b makes v wants u 9 8 7;person m at c makes u v w wants v 2;";

    public static void main(String[] args) {
        use();
        coins();
        lifting();
        lifts();
        lies();
        fines();
        draws();
        weeks();
        marks();
        Doc.whole("Use", "Terms 5");
        coin();
        lifted();
        lift();
        lie();
        years();
        mark();
        count();
        Doc.wholePromises(26, 30);
        Doc.wholePromises(32, 33);
        Due.end("LawBoundsTest");
    }

    private static void makeMany(OwnMade x, int person, int good, int many) {
        for (int i = 0; i < many; i++) {
            Due.is("made", x.make(person, -1, good, 0), 0);
        }
    }

    private static void use() {
        Doc.says("Use", "An object is used for at most 512 calls after it has been made; what later calls answer is free.");
        OwnMade x = new OwnMade();
        x.feed(Due.eight("place a;", 0), 0, 0);
        x.land();
        for (int i = 3; i <= 510; i++) {
            x.feed(Due.eight("place b;", 0), Due.eight(" ", 0), 0);
        }
        Due.is("the 511th call", x.count(6), 1000);
        Due.is("the 512th call", x.count(0), 1);
    }

    private static void coins() {
        Doc.says("Terms 5", "COIN: each GOOD's THINGS that are held go to whom they are worth most, wherever: how much HAPPIER all would be than now.");
        OwnMade x = Due.told(LAND);
        Due.is("nothing is held", x.coin(-1), 0);
        makeMany(x, 0, 0, 1);
        Due.is("9 rather than 3", x.coin(0), 6);
        makeMany(x, 0, 0, 1);
        Due.is("9, 8 rather than 3, 1", x.coin(0), 13);
        makeMany(x, 0, 0, 1);
        Due.is("9, 8, 7 rather than 3, 1", x.coin(0), 20);
        makeMany(x, 0, 0, 1);
        Due.is("and 3", x.coin(0), 23);
        makeMany(x, 0, 0, 1);
        Due.is("and 1", x.coin(0), 24);
        makeMany(x, 0, 0, 1);
        Due.is("a sixth is worth nothing", x.coin(0), 24);
        makeMany(x, 2, 1, 1);
        Due.is("from c, where no way is: 5 rather than 2", x.coin(1), 3);
        Due.is("all", x.coin(-1), 27);
        Due.is("used up", x.make(2, -1, 2, 0) + x.coin(1), 0);
        Due.is("nobody wants w", x.coin(2), 0);
        makeMany(x, 1, 1, 2);
        Due.is("k's first one, m's first one", x.coin(1), 7);
        Due.is("given to k", x.go(1, 0) + x.give(1, 0, 8), 0);
        Due.is("as it is best, but one", x.coin(1), 2);
        Due.is("k has a second one", x.give(1, 0, 9) + x.coin(1), 2);
        OwnMade best = Due.told("place a;good u hours 1;person k at a makes u wants u 9;person l at a makes wants u 9;");
        makeMany(best, 0, 0, 1);
        Due.is("as good as it is", best.coin(0), 0);
    }

    private static void lifting() {
        Doc.says("Terms 5", "LIFTED is the law for a GOOD when that is told.");
        OwnMade x = Due.told(LAND);
        Due.is("u of k and m: not at one place", x.make(0, 2, 0, 0), 4);
        Due.is("u of l and k", x.go(0, 1) + x.make(1, 0, 0, 0), 0);
        Due.is("not yet", x.lawful(1, 0, 0), 0);
        Due.is("another one is told", x.lifted(1, true) ? x.lawful(1, 0, 0) : 2, 0);
        Due.is("it is told", x.lifted(0, true) ? x.lawful(1, 0, 0) : 2, 1);
        Due.is("told not to be", x.lifted(0, false) ? x.lawful(1, 0, 0) : 2, 0);
    }

    private static void lifts() {
        Doc.says("Terms 5", "LIFT: by how much the MOST of all PEOPLE (door 0) is more with one GOOD LIFTED, too, than without it.");
        String land = "place a;good u hours 1;good v hours 1;good w hours 1;person k at a makes u wants v 5;person l at a makes v wants u 4;"
                + "person m at a makes w wants w 9;";
        OwnMade x = Due.told(land);
        Due.is("u of k and m, v of l", x.make(0, 2, 0, 0) + x.make(1, -1, 1, 0), 0);
        Due.is("u: 9 rather than 0", x.lift(0), 9);
        Due.is("v is lawful without", x.lift(1), 0);
        Due.is("w is nobody's", x.lift(2), 0);
        Due.is("it is lifted already", x.lifted(0, true) ? x.lift(0) : -1, 9);
        Due.is("v, too", x.lift(1), 0);
        Due.rule(x, "lawful when free and not door;");
        Due.is("u, with v not lifted", x.lift(0), 0);
        Due.is("v, with u lifted, door 0", x.lift(1), 9);
        Due.is("nothing was lifted by it", x.most(7, 0), 0);
        Due.rule(x, "lawful when free and door;");
        Due.is("door is not 1", x.lift(1), 0);
        Due.rule(x, "lawful when not free;");
        Due.is("u is lifted, so v is nothing", x.lift(1), 0);
        Due.is("less than without it", x.lift(0), -9);
    }

    private static OwnMade liars() {
        OwnMade x = Due.told("place a;place b;way a b 2;good u hours 1;good v hours 1;person k at a makes u v wants u 5 2 wants v 999;"
                + "person l at b makes wants u 10 3 wants v 999;person m at a makes u;");
        for (int i = 0; i < 3; i++) {
            Due.is("u of two", x.make(0, 2, 0, 0), 0);
        }
        Due.is("v of two", x.make(0, 2, 1, 0), 0);
        Due.is("u of m and k, v of m and k, a v of k alone", x.make(2, 0, 0, 0) + x.make(2, 0, 1, 0) + x.make(0, -1, 1, 0), 0);
        return x;
    }

    private static void likely(OwnMade x, int giver, int receiver, int thing, int ten, int fine, int above, int below) {
        Due.is(ten + " of ten, fine " + fine + ": above", x.lie(giver, receiver, thing, ten, fine, 0), above);
        Due.is(ten + " of ten, fine " + fine + ": below", x.lie(giver, receiver, thing, ten, fine, 1), below);
    }

    private static void lies() {
        Doc.says("Terms 5", "LIES: a gift that is not LAWFUL, said to be: seen with a CHANCE of ten: "
                + "then a FINE is lost and the THING stays; else it is given.");
        OwnMade x = liars();
        likely(x, 0, 1, 0, 0, 9999, 10, 1);
        likely(x, 0, 1, 0, 10, 9999, -9999, 1);
        likely(x, 0, 1, 0, 10, 0, 0, 1);
        likely(x, 0, 1, 0, 1, 0, 9, 1);
        likely(x, 0, 1, 0, 9, 0, 1, 1);
        Due.throwsNone("it is lawful", () -> x.lie(0, 1, 6, 5, 5, 0));
        Due.is("nothing is given", x.thing(0, 3), 0);
        Due.is("nothing is lost", x.person(0, 3) * 100 + x.person(1, 3), 100600);

        Doc.says("Terms 5", "What is likely of how much HAPPIER both are together, less the FINE;");
        likely(x, 0, 1, 0, 5, 10, 0, 1);
        likely(x, 0, 1, 0, 5, 9, 1, 2);
        likely(x, 0, 1, 0, 5, 11, -1, 2);
        likely(x, 0, 1, 0, 3, 1, 67, 10);
        likely(x, 0, 1, 0, 2, 1, 39, 5);
        likely(x, 0, 1, 0, 4, 5, 4, 1);
        likely(x, 0, 1, 0, 9, 9999, 10 - 89991, 10);
        // m's u: k has three already, m loses nothing
        likely(x, 2, 0, 4, 5, 0, 0, 1);
        likely(x, 2, 1, 4, 5, 0, 5, 1);
        // k's v to m, who wants none: there are two
        likely(x, 0, 2, 3, 0, 0, 0, 1);
        Due.is("k gives the v of k alone", x.go(0, 1) + x.give(0, 1, 6), 0);
        likely(x, 0, 2, 3, 0, 0, -999, 1);
        likely(x, 0, 2, 3, 5, 1, -500, 1);
        likely(x, 0, 2, 3, 5, 0, -999, 2);
        likely(x, 0, 1, 3, 0, 0, -999, 1);
    }

    private static void fines() {
        Doc.says("Terms 5", "the least FINE (0 to 9999) with which that is not above 0.");
        OwnMade x = liars();
        for (int ten = 1; ten <= 9; ten++) {
            int fine = x.lie(0, 1, 0, ten, 0, 2);
            Due.is("not above 0 by " + ten, x.lie(0, 1, 0, ten, fine, 0) <= 0, true);
            Due.is("above 0 with one less", x.lie(0, 1, 0, ten, fine - 1, 0) > 0, true);
        }
        int[] due = {-1, 90, 40, 24, 15, 10, 7, 5, 3, 2, 0};
        for (int ten = 0; ten <= 10; ten++) {
            Due.is("10 by " + ten, x.lie(0, 1, 0, ten, 9999, 2), due[ten]);
        }
        Due.is("0 of it: none is needed", x.lie(2, 0, 4, 0, 0, 2), 0);
        OwnMade least = Due.told("place a;good u hours 1;person k at a makes u;person l at a makes wants u 1;");
        Due.is("u of both", least.make(0, 1, 0, 0), 0);
        Due.is("a tenth above 0", least.lie(0, 1, 0, 9, 0, 2), 1);
        likely(least, 0, 1, 0, 9, 0, 1, 10);
        likely(least, 0, 1, 0, 9, 1, -4, 5);
        Due.is("999 by one of ten", x.lie(2, 1, 5, 1, 0, 2), 8991);
        Due.is("999 by none of ten", x.lie(2, 1, 5, 0, 0, 2), -1);
        Due.is("k gives a v", x.go(0, 1) + x.give(0, 1, 6), 0);
        Due.is("-999 by one of ten", x.lie(0, 2, 3, 1, 0, 2), 0);
        Due.is("-999 by none of ten", x.lie(0, 2, 3, 0, 0, 2), 0);
    }

    // ---- years ----

    /** The draws by numbers that have no end; k and l trade if theirs are the ones that each other wants. */
    private static int[] drawn(int seed, int weeks, int kMakes, int lMakes, int kNeeds, int lNeeds, int worth) {
        BigInteger g = BigInteger.valueOf(seed);
        int sum = 0;
        int quiet = 0;
        for (int week = 0; week < weeks; week++) {
            int[] made = new int[2];
            for (int i = 0; i < 2; i++) {
                g = g.multiply(BigInteger.valueOf(1103515245)).add(BigInteger.valueOf(12345)).mod(BigInteger.valueOf(2147483648L));
                BigInteger drawn = g.divide(BigInteger.valueOf(65536)).mod(BigInteger.valueOf(i == 0 ? kMakes : lMakes));
                made[i] = drawn.intValue();
            }
            boolean trade = made[0] == kNeeds && made[1] == lNeeds;
            sum += trade ? worth : 0;
            quiet += trade ? 0 : 1;
        }
        return new int[] {sum, quiet};
    }

    private static void draws() {
        Doc.says("Terms 5", "YEARS by draws: g is a SEED (0 to 9999) at first; a DRAW below m: g becomes (g * 1103515245 + 12345) "
                + "modulo 2147483648, it is g / 65536, cut, modulo m.");
        String six = "place a;good s hours 1;good t hours 1;good u hours 1;good v hours 1;good w hours 1;good x hours 1;";
        // what k makes: s to x by numbers; l makes u, w, x; x is l's third one
        OwnMade x = Due.told(six + "person k at a makes x w v u t s wants x 999;person l at a makes x u w wants t 1;");
        OwnMade y = Due.told(six + "person k at a makes t wants s 3;person l at a makes t s wants t 1;");
        for (int seed : new int[] {0, 1, 2, 4999, 9998, 9999}) {
            for (int weeks : new int[] {1, 2, 51, 52}) {
                int[] due = drawn(seed, weeks, 6, 3, 1, 2, 1000);
                Due.is("seed " + seed + ", weeks " + weeks, x.years(seed, weeks, 0), due[0]);
                Due.is("weeks with 0", x.years(seed, weeks, 1), due[1]);
                int[] one = drawn(seed, weeks, 1, 2, 0, 0, 4);
                Due.is("a DRAW below 1 is one, too", y.years(seed, weeks, 0), one[0]);
                Due.is("weeks with 0", y.years(seed, weeks, 1), one[1]);
            }
        }
        Due.is("52 weeks are not all alike", x.years(1, 52, 1) < 52 && x.years(1, 52, 1) > 0, true);
    }

    private static void weeks() {
        Doc.says("Terms 5", "In each of n (1 to 52) WEEKS all begin with nothing; each of the PEOPLE, by numbers, who makes something, "
                + "has one THING of a GOOD that is DRAWN among what they make, by the numbers of GOODS (made alone, sort 0; LIFTED as now); "
                + "then the MOST of all (door 0) is counted.");
        // v is made of u, but it is drawn all the same; m makes nothing, so nothing is drawn for m
        String land = "place a;place b;good u hours 24;good v hours 24 from u;person m at a makes wants u 9 wants v 9;"
                + "person k at a makes u wants v 5 4;person l at b makes v wants u 3 2;";
        OwnMade x = Due.told(land);
        Due.is("one week", x.years(5, 1, 0), 8);
        Due.is("52 weeks", x.years(5, 52, 0), 416);
        makeMany(x, 1, 0, 2);
        Due.is("with nothing: the first v, the first u", x.years(5, 1, 0), 8);
        Due.is("they are there still", x.count(3) * 100 + x.person(1, 2), 248);
        OwnMade first = Due.told("place a;good u hours 1;good v hours 1;person k at a makes u wants u 2 wants v 5;"
                + "person l at a makes v wants u 3;");
        Due.is("each has the one thing, and gives it", first.years(5, 1, 0), 6);
        Due.rule(first, "lawful when good = 1 or not door;");
        Due.is("door is 0 for the first one", first.years(5, 1, 0), 6);
        Due.rule(first, "lawful when good = 1 or door;");
        Due.is("and not 1", first.years(5, 1, 0), 0);
        Due.is("sort 3", x.make(1, -1, 0, 3), 0);
        Due.rule(x, "lawful when own = 1 and part = 1 and sort = 0 and not door;");
        Due.is("one of sort 3 is not lawful", x.lawful(1, 2, 2), 0);
        Due.is("made alone, sort 0, door 0", x.years(5, 1, 0), 8);
        Due.rule(x, "lawful when part = 1;");
        Due.is("given to m", x.give(1, 0, 2), 0);
        Due.is("m has no part in it", x.lawful(0, 1, 2), 0);
        Due.is("each has part in the one's own", x.years(5, 1, 0), 8);
        Due.rule(x, "lawful when own < 1 or part < 1 or 0 < sort or door;");
        Due.is("nothing else", x.years(5, 1, 0), 0);
        Due.rule(x, "lawful when free;");
        Due.is("nothing is lifted", x.years(5, 2, 1), 2);
        Due.is("one is", x.lifted(0, true) ? x.years(5, 2, 1) : -1, 2);
        Due.is("both are", x.lifted(1, true) ? x.years(5, 2, 0) : -1, 16);
        OwnMade many = Due.told("place a;good u hours 1;good v hours 1;person k at a makes u wants v 999;person l at a makes v wants u 999;"
                + "person m at a makes u wants v 999;person n at a makes v wants u 999;person o at a makes u wants v 999;"
                + "person p at a makes v wants u 999;person q at a makes u wants v 999;person r at a makes v wants u 999;");
        Due.is("eight in 52 weeks", many.years(9999, 52, 0), 8 * 999 * 52);

        Doc.says("Terms 5", "All together; in how many WEEKS it was 0.");
        Due.is("none of 52", many.years(0, 52, 1), 0);
        OwnMade none = Due.told("place a;good u hours 1;person k at a makes u wants u 5;person l at a makes u wants u 9;");
        Due.is("all of 52", none.years(0, 52, 1) * 10 + none.years(0, 52, 0), 520);
        Due.is("nobody is there", new OwnMade().years(0, 52, 1), 52);
    }

    private static void marks() {
        Doc.says("Terms 5", "MARKS 0 to 3 hold THINGS, CLOCKS, where all are, LIFTED (not the LAND, the RULE; a new LAND takes all MARKS away).");
        OwnMade x = Due.told(LAND);
        for (int mark = 0; mark <= 3; mark++) {
            Due.is("laid", x.mark(mark, false), true);
            makeMany(x, 0, 0, 1);
            Due.is("to and fro", x.go(0, 1 - mark % 2), 0);
            x.lifted(mark % 3, true);
        }
        Due.is("now", x.count(3) * 1000 + x.person(0, 2) * 10 + x.person(0, 1), 4120);
        Due.rule(x, "lawful when free;");
        for (int mark = 3; mark >= 0; mark--) {
            Due.is("back to " + mark, x.mark(mark, true), true);
            Due.is("things, clock, place", x.count(3) * 1000 + x.person(0, 2) * 10 + x.person(0, 1), mark * 1030 + mark % 2);
            Due.is("made at once", x.make(0, -1, 0, 0) * 10 + x.lawful(0, 1, mark), mark > 0 ? 1 : 0);
        }
        Due.is("the rule is what it is", x.count(5), 1);
        thingsOfMarks();
        Due.is("back to the last one once more", x.mark(3, true) ? x.count(3) : -1, 3);
        Due.is("what was made behind it is not on it", x.thing(2, 3), 0);
        Due.is("a land with a FAULT", Due.land(x, "place a;place a;"), 3 + 16 * 14);
        Due.is("takes none away", x.mark(0, true) && x.mark(3, true), true);
        Due.is("a new land", Due.land(x, LAND), 0);
        for (int mark = 0; mark <= 3; mark++) {
            Due.is("takes away " + mark, x.mark(mark, true), false);
        }
        Due.is("laid again", x.mark(2, false) && x.mark(2, true), true);
        OwnMade full = Due.told(LAND);
        makeMany(full, 0, 0, 39);
        full.mark(1, false);
        makeMany(full, 0, 0, 1);
        Due.is("40", full.make(0, -1, 0, 0), 7);
        Due.is("39 again", full.mark(1, true) ? full.make(0, -1, 0, 0) : -1, 0);
        Due.is("40 again", full.make(0, -1, 0, 0), 7);
    }

    /** A THING of the same number may be another one by the time that a MARK is gone back to. */
    private static void thingsOfMarks() {
        OwnMade x = Due.told(LAND);
        x.mark(0, false);
        Due.is("u of k, sort 1, for l", x.make(0, -1, 0, 1) + x.go(0, 1) + x.give(0, 1, 0), 0);
        x.mark(1, false);
        Due.is("with nothing", x.mark(0, true) ? x.count(3) : -1, 0);
        Due.is("v of l at 3, v of m, w of m, sort 2", x.go(1, 0) + x.make(1, -1, 1, 0) + x.make(2, -1, 1, 0) + x.make(2, -1, 2, 2), 0);
        x.mark(2, false);
        Due.is("v of l", x.thing(0, 0) * 10000 + x.thing(0, 1) * 1000 + x.thing(0, 2) * 100 + x.thing(0, 3) * 10 + x.thing(0, 4), 10213);
        Due.is("back", x.mark(1, true), true);
        Due.is("u of k, sort 1, held by l, of hour 1", x.thing(0, 0) * 10000 + x.thing(0, 1) * 1000 + x.thing(0, 2) * 100
                + x.thing(0, 3) * 10 + x.thing(0, 4), 1111);
        Due.is("one thing, clocks of 3, 3, 0", x.count(3) * 1000 + x.person(0, 2) * 100 + x.person(1, 2) * 10 + x.person(2, 2), 1330);
        Due.is("the other one", x.mark(2, true), true);
        Due.is("v of l again", x.thing(0, 0) * 10000 + x.thing(0, 1) * 1000 + x.thing(0, 2) * 100 + x.thing(0, 3) * 10 + x.thing(0, 4), 10213);
        Due.is("used up", x.thing(1, 3), -1);
        Due.is("w of m, sort 2, of hour 2", x.thing(2, 0) * 10000 + x.thing(2, 1) * 1000 + x.thing(2, 2) * 100 + x.thing(2, 3) * 10
                + x.thing(2, 4), 22422);
        Due.is("clocks of 0, 3, 2", x.person(0, 2) * 100 + x.person(1, 2) * 10 + x.person(2, 2), 32);
    }

    // ---- promises ----

    private static void coin() {
        Doc.says("Promise 26", "COIN (good NONE: all);");
        OwnMade x = Due.told(LAND);
        makeMany(x, 0, 0, 1);
        makeMany(x, 1, 1, 1);
        Due.is("u", x.coin(0), 6);
        Due.is("v", x.coin(1), 5);
        Due.is("w", x.coin(2), 0);
        Due.is("all", x.coin(OwnMade.NONE), 11);
        Due.is("of nothing", new OwnMade().coin(OwnMade.NONE), 0);
        Doc.says("Promise 26", "NONE: no such GOOD.");
        for (int other : new int[] {3, -2, 256, Integer.MIN_VALUE, Integer.MAX_VALUE}) {
            Due.is("good " + other, x.coin(other), -1);
        }
        Due.is("no good", new OwnMade().coin(0), -1);
    }

    private static void lifted() {
        Doc.says("Promise 27", "A GOOD is LIFTED or not: true; false: none such.");
        OwnMade x = Due.told(LAND);
        for (int good = 0; good < 3; good++) {
            Due.is("lifted", x.lifted(good, true), true);
            Due.is("again", x.lifted(good, true), true);
            Due.is("not", x.lifted(good, false), true);
            Due.is("not again", x.lifted(good, false), true);
        }
        for (int other : Due.others(2)) {
            Due.is("good " + other, x.lifted(other, true), false);
            Due.is("good " + other, x.lifted(other, false), false);
        }
        Due.rule(x, "lawful when free;");
        makeMany(x, 0, 0, 1);
        makeMany(x, 1, 1, 1);
        Due.is("others lift nothing", x.lawful(0, 1, 0) + x.lawful(1, 0, 1), 0);
        Due.is("the last one", x.lifted(2, true) ? x.lawful(0, 1, 0) : -1, 0);
        Due.is("v", x.lifted(1, true) ? x.lawful(0, 1, 0) * 10 + x.lawful(1, 0, 1) : -1, 1);
        Due.is("no good", new OwnMade().lifted(0, true), false);
    }

    private static void lift() {
        Doc.says("Promise 28", "LIFT;");
        OwnMade x = Due.told(LAND);
        makeMany(x, 0, 0, 1);
        makeMany(x, 1, 1, 1);
        Due.is("lawful without", x.lift(0) + x.lift(1) + x.lift(2), 0);
        Due.rule(x, "lawful when free or good = 1;");
        Due.is("u", x.lift(0), 11);
        Due.is("the last one", x.lift(2), 0);
        Doc.says("Promise 28", "NONE: no such GOOD.");
        for (int other : Due.others(2)) {
            Due.is("good " + other, x.lift(other), -1);
        }
        Due.is("no good", new OwnMade().lift(0), -1);
    }

    private static void lie() {
        Doc.says("Promise 29", "LIES, what 0, 1: above (it may be below 0) and below of what is likely, in lowest terms;");
        OwnMade x = liars();
        likely(x, 0, 1, 0, 5, 0, 5, 1);
        likely(x, 0, 1, 0, 5, 20, -5, 1);
        likely(x, 0, 1, 0, 5, 10, 0, 1);
        likely(x, 0, 1, 0, 1, 1, 89, 10);
        likely(x, 0, 1, 0, 4, 1, 28, 5);
        likely(x, 0, 1, 0, 5, 3, 7, 2);
        likely(x, 0, 1, 0, 5, 13, -3, 2);
        likely(x, 0, 1, 0, 4, 16, -2, 5);
        likely(x, 0, 1, 0, 3, 27, -11, 10);
        Doc.says("Promise 29", "2: the least FINE (NONE: none).");
        Due.is("one of ten", x.lie(0, 1, 0, 1, 0, 2), 90);
        Due.is("ten of ten", x.lie(0, 1, 0, 10, 9999, 2), 0);
        Due.is("none of ten", x.lie(0, 1, 0, 0, 0, 2), OwnMade.NONE);
        Doc.says("Promise 29", "NoSuchElementException: others (CHANCE 0 to 10, FINE 0 to 9999), not held by the giver, LAWFUL.");
        for (int what = 0; what <= 2; what++) {
            int asked = what;
            for (int other : Due.others(10)) {
                Due.throwsNone("chance " + other, () -> x.lie(0, 1, 0, other, 5, asked));
            }
            for (int other : Due.others(9999)) {
                if (other != 256) {
                    Due.throwsNone("fine " + other, () -> x.lie(0, 1, 0, 5, other, asked));
                }
            }
            for (int other : Due.others(2)) {
                Due.throwsNone("giver " + other, () -> x.lie(other, 1, 0, 5, 5, asked));
                Due.throwsNone("receiver " + other, () -> x.lie(0, other, 0, 5, 5, asked));
            }
            for (int other : Due.others(6)) {
                Due.throwsNone("thing " + other, () -> x.lie(0, 1, other, 5, 5, asked));
            }
            Due.throwsNone("oneself", () -> x.lie(0, 0, 0, 5, 5, asked));
            Due.throwsNone("not held", () -> x.lie(0, 1, 4, 5, 5, asked));
            Due.throwsNone("lawful", () -> x.lie(0, 1, 6, 5, 5, asked));
        }
        for (int other : Due.others(2)) {
            Due.throwsNone("what " + other, () -> x.lie(0, 1, 0, 5, 5, other));
        }
        Due.is("just within", x.lie(0, 1, 0, 10, 9999, 0) + x.lie(0, 1, 0, 0, 0, 0), -9989);
        Due.is("v is lifted", x.lifted(1, true), true);
        Due.throwsNone("so it is lawful", () -> x.lie(0, 1, 3, 5, 5, 0));
        Due.is("u is not", x.lie(0, 1, 0, 0, 0, 0), 10);
        Due.throwsNone("nobody", () -> new OwnMade().lie(0, 1, 0, 5, 5, 0));
    }

    private static void years() {
        Doc.says("Promise 30", "YEARS, what 0: all together, 1: WEEKS with 0;");
        OwnMade x = Due.told(LAND);
        int[] due = new int[2];
        for (int weeks = 1; weeks <= 52; weeks++) {
            Due.is("not less with more weeks", x.years(3, weeks, 0) >= due[0] && x.years(3, weeks, 1) >= due[1], true);
            due[0] = x.years(3, weeks, 0);
            due[1] = x.years(3, weeks, 1);
        }
        Due.is("some of both", due[0] > 0 && due[1] > 0 && due[1] < 52, true);
        Doc.says("Promise 30", "NONE: others.");
        OwnMade none = new OwnMade();
        Due.is("0, 1", none.years(0, 1, 1), 1);
        Due.is("9999, 52", none.years(9999, 52, 1), 52);
        for (int other : new int[] {-1, 10000, Integer.MIN_VALUE, Integer.MAX_VALUE}) {
            Due.is("seed " + other, none.years(other, 5, 1), -1);
        }
        for (int other : new int[] {0, -1, 53, Integer.MIN_VALUE, Integer.MAX_VALUE}) {
            Due.is("weeks " + other, none.years(5, other, 1), -1);
        }
        for (int other : Due.others(1)) {
            Due.is("what " + other, none.years(5, 5, other), -1);
        }
    }

    private static void mark() {
        Doc.says("Promise 32", "A MARK is laid (back: gone back to): true;");
        OwnMade x = Due.told(LAND);
        for (int mark = 0; mark <= 3; mark++) {
            Due.is("nothing is on " + mark, x.mark(mark, true), false);
            Due.is("laid", x.mark(mark, false), true);
            Due.is("back", x.mark(mark, true), true);
            Due.is("laid again", x.mark(mark, false), true);
            Due.is("back twice", x.mark(mark, true) && x.mark(mark, true), true);
        }
        Doc.says("Promise 32", "false: none such, nothing is on it (back).");
        for (int other : Due.others(3)) {
            Due.is("mark " + other, x.mark(other, false), false);
            Due.is("mark " + other, x.mark(other, true), false);
        }
        OwnMade y = Due.told(LAND);
        Due.is("the last one", y.mark(3, false) && y.mark(3, true), true);
        Due.is("not the others", y.mark(0, true) || y.mark(1, true) || y.mark(2, true), false);
    }

    private static void count() {
        Doc.says("Promise 33", "What 0: PLACES, 1: GOODS, 2: PEOPLE, 3: THINGS, 4: those held, 5: lines of the RULE, 6: signs on the TAPE, 7: HAPPY of all.");
        OwnMade x = Due.told(LAND);
        makeMany(x, 2, 1, 3);
        makeMany(x, 2, 2, 1);
        makeMany(x, 0, 0, 2);
        Due.rule(x, "lawful when own;".repeat(6));
        Due.is("five signs", x.feed(Due.eight("place", 0), 0, 0), 5);
        int[] due = {3, 3, 3, 6, 5, 6, 5, 6};
        for (int what = 0; what <= 7; what++) {
            Due.is("what " + what, x.count(what), due[what]);
            Due.is("new: what " + what, new OwnMade().count(what), 0);
        }
        Doc.says("Promise 33", "NONE for another what.");
        for (int other : Due.others(7)) {
            Due.is("what " + other, x.count(other), -1);
        }
    }
}
