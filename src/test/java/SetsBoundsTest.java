/** The boundaries of Terms, part 4, and of promises 18 to 25, sentence by sentence: where to live, what is had, fairs. */
final class SetsBoundsTest {
    private static final String FIVE = "place a;place b;place c;place d;place e;";
    private static final String GOODS = "good u hours 1;good v hours 1;good w hours 1;good x hours 1;good y hours 1;good z hours 1;";
    private static final String EIGHT = "person i at a makes;person j at a makes;person k at a makes;person l at a makes;"
            + "person m at a makes;person n at a makes;person o at a makes;person p at a makes;";
    // k and l: 10; m and n: 9; k and m: 7
    private static final String PAIRS = GOODS + "person k at a makes u wants v 5 wants w 4;person l at a makes v wants u 5;"
            + "person m at a makes w wants x 5 wants u 3;person n at a makes x wants w 4;";

    public static void main(String[] args) {
        livingTogether();
        hadOf();
        neverHad();
        fewestPeople();
        fairs();
        bestPlace();
        howFar();
        Doc.whole("Terms 4");
        live();
        beside();
        had();
        never();
        fewest();
        fair();
        fairest();
        far();
        Doc.wholePromises(18, 25);
        Due.end("SetsBoundsTest");
    }

    /** Each makes one of each GOOD that they make and that nothing goes into. */
    private static OwnMade made(String land) {
        OwnMade x = Due.told(land);
        for (int i = 0; i < x.count(2); i++) {
            for (int good = 0; good < x.count(1); good++) {
                if ((x.person(i, 5) >> good & 1) == 1 && x.good(good, 1) == 0) {
                    Due.is("made", x.make(i, -1, good, 0), 0);
                }
            }
        }
        return x;
    }

    private static void livingTogether() {
        Doc.says("Terms 4", "LIVE: all PEOPLE are put on PLACES (of all told), at most so many on one: "
                + "so that the MOSTS of those on each PLACE (door 0) come together to the most.");
        OwnMade x = made("place a;place b;" + PAIRS);
        Due.is("two by two: 10 and 9", x.live(2, 0), 19);
        Due.is("all on one: as well", x.live(4, 0), 19);
        Due.is("one by one there is no room", x.live(1, 0), -1);
        OwnMade four = made("place a;place b;place c;place d;" + PAIRS);
        Due.is("one by one nothing comes", four.live(1, 0), 0);
        OwnMade ring = made("place a;place b;" + GOODS + "person k at a makes u wants v 5;person l at b makes v wants w 5;"
                + "person m at a makes w wants u 5;");
        Due.is("three in twos", ring.live(2, 0), 0);
        Due.is("three in threes", ring.live(3, 0), 15);
        Due.rule(ring, "lawful when not door;");
        Due.is("door is 0", ring.live(3, 0), 15);
        Due.rule(ring, "lawful when door;");
        Due.is("door is not 1", ring.live(3, 0), 0);
        OwnMade best = made("place a;place b;" + GOODS + "person k at a makes u wants v 5 wants w 9;person l at a makes v wants u 5;"
                + "person m at a makes w wants x 5 wants u 9;person n at a makes x wants w 4;");
        Due.is("18 and nothing, not 10 and 9", best.live(2, 0), 19);
        Due.is("k beside l then", best.beside(2, 0, 1), 1);
        Due.is("k beside m is 18", best.beside(2, 0, 2), 0);
        OwnMade eight = Due.told(FIVE + EIGHT);
        Due.is("eight on five, one by one", eight.live(1, 0), -1);
        Due.is("two by two", eight.live(2, 0), 0);
    }

    private static void hadOf() {
        Doc.says("Terms 4", "HAD in a set of PEOPLE is a GOOD that one of them makes if all that goes into it is HAD.");
        OwnMade x = Due.told("place a;good u hours 1;good v hours 1 from u;good w hours 1 from v;good x hours 1 from w;good y hours 1 from x;"
                + "good z hours 1 from u v w x y;person k at a makes z y x w v;person l at a makes u;person m at a makes z;");
        Due.is("u is missing", x.had(1), 0);
        Due.is("u alone", x.had(2), 1);
        Due.is("six, one out of the other", x.had(3), 63);
        Due.is("what goes into z is missing", x.had(6), 1);
        Due.is("nobody", x.had(0), 0);
        OwnMade y = Due.told("place a;good u hours 1;good v hours 1;good w hours 1 from u v;person k at a makes u w;person l at a makes v;");
        Due.is("one of two", y.had(1), 1);
        Due.is("both", y.had(3), 7);
    }

    private static void neverHad() {
        Doc.says("Terms 4", "NEVER: GOODS that somebody of a set wants (a first worth above 0) and that are not HAD.");
        OwnMade x = Due.told("place a;" + GOODS + "person k at a makes u wants v 1 wants w 0 wants u 5;person l at a makes wants x 0 0 0 wants z 999;"
                + "person m at a makes v z;");
        Due.is("1 is above 0, 0 is not", x.never(1), 2);
        Due.is("z", x.never(2), 32);
        Due.is("both", x.never(3), 34);
        Due.is("with who makes them", x.never(7), 0);
        Due.is("who wants nothing", x.never(4), 0);
        Due.is("nobody", x.never(0), 0);
    }

    private static void fewestPeople() {
        Doc.says("Terms 4", "FEWEST: the fewest people with one of them among whom nothing is NEVER had; of equal ones the least as bits.");
        OwnMade x = Due.told("place a;" + GOODS + "person k at a makes wants u 1;person l at a makes u wants v 1;person m at a makes u;"
                + "person n at a makes u;person o at a makes v;");
        Due.is("k and m, not l, who wants v", x.fewest(0, 1), 5);
        Due.is("two", x.fewest(0, 0), 2);
        Due.is("l and o", x.fewest(1, 1), 18);
        Due.is("m alone", x.fewest(2, 0) * 100 + x.fewest(2, 1), 104);
        Due.is("o alone", x.fewest(4, 0) * 100 + x.fewest(4, 1), 116);
        OwnMade all = Due.told("place a;" + GOODS + "person k at a makes u wants v 1;person l at a makes v wants w 1;person m at a makes w wants x 1;"
                + "person n at a makes x wants y 1;person o at a makes y wants z 1;person p at a makes z wants u 1;");
        Due.is("all six", all.fewest(5, 0) * 100 + all.fewest(5, 1), 663);
        OwnMade none = Due.told("place a;" + GOODS + "person k at a makes wants u 1;person l at a makes v;");
        Due.is("none", none.fewest(0, 0), -1);
        Due.is("one wants nothing", none.fewest(1, 0), 1);
    }

    // ---- fairs ----

    private static void fairs() {
        Doc.says("Terms 4", "FAIR at a PLACE: those come whose way there and back from HOME takes no more than so many HOURS:");
        OwnMade x = Due.told(FIVE + "way a b 24;way b c 24;way c d 24;way d e 12;person k at a makes;person l at e makes;person m at c makes;");
        Due.is("of no hours: who is at home", x.fair(4, 0, 0, 1), 2);
        Due.is("71", x.fair(4, 71, 0, 1), 2);
        Due.is("72: from c", x.fair(4, 72, 0, 1), 6);
        Due.is("73", x.fair(4, 73, 0, 1), 6);
        Due.is("167", x.fair(4, 167, 0, 1), 6);
        Due.is("168: from a, 84 there and 84 back", x.fair(4, 168, 0, 1), 7);
        OwnMade far = Due.told(FIVE + "way a b 24;way b c 24;way c d 24;way d e 13;person k at a makes;person l at e makes;");
        Due.is("85 there is too far", far.fair(4, 168, 0, 1), 2);
        OwnMade apart = Due.told("place a;place b;person k at a makes;person l at b makes;");
        Due.is("no way", apart.fair(0, 168, 0, 1), 1);
        Due.is("from home, wherever one is", x.go(0, 4) * 10 + x.fair(4, 0, 0, 1), 2);

        Doc.says("Terms 4", "their MOST (door 0), less a PRICE (0 to 99) for each HOUR of these ways.");
        OwnMade y = made("place a;place b;way a b 3;" + GOODS + "person k at a makes u wants v 5;person l at b makes v wants u 4;");
        Due.is("alone", y.fair(0, 5, 1, 0), 0);
        Due.is("for nothing", y.fair(0, 6, 0, 0), 9);
        Due.is("1 an hour", y.fair(0, 6, 1, 0), 3);
        Due.is("2 an hour", y.fair(0, 6, 2, 0), -3);
        Due.is("99 an hour", y.fair(0, 6, 99, 0), -585);
        Due.rule(y, "lawful when door;");
        Due.is("door is 0", y.fair(0, 6, 1, 0), -6);
        Due.rule(y, "lawful when not door;");
        Due.is("as it is", y.fair(1, 6, 1, 0), 3);
        OwnMade dear = Due.told(FIVE + "way a b 24;way b c 24;way c d 24;way d e 12;" + EIGHT);
        Due.is("the dearest", dear.fair(4, 168, 99, 0), -8 * 168 * 99);
    }

    private static void bestPlace() {
        Doc.says("Terms 4", "The best PLACE: of equal ones the first.");
        OwnMade x = made("place a;place b;way a b 3;" + GOODS + "person k at a makes u wants v 5;person l at b makes v wants u 4;");
        Due.is("3 and 3", x.fairest(6, 1), 0);
        OwnMade y = made("place a;place b;place c;way a b 3;way b c 2;" + GOODS
                + "person k at a makes u wants v 50;person l at c makes v wants u 4;");
        Due.is("at b, at c, at a: all 10 hours", y.fairest(10, 1), 0);
        Due.is("at b 6 are enough", y.fairest(6, 1), 1);
        Due.is("5 nowhere", y.fairest(5, 1), 0);
        OwnMade last = Due.told(FIVE + "way a b 1;way b c 1;way c d 1;way d e 1;person k at e makes;person l at e makes;");
        Due.is("below 0 all but the last one", last.fairest(168, 1), 4);
        Due.is("for nothing all are equal", last.fairest(168, 0), 0);
    }

    private static void howFar() {
        Doc.says("Terms 4", "FAR: how many HOURS one would go at most, there and back, at that PRICE an HOUR, for a GOOD: "
                + "the first worth by the PRICE, cut (999 at most);");
        OwnMade x = Due.told("place a;" + GOODS + "person k at a makes wants u 999 5 wants v 1 wants w 0 wants x 99 wants y 98;");
        Due.is("999 by 1", x.far(0, 0, 1, 0), 999);
        Due.is("999 by 2, cut", x.far(0, 0, 2, 0), 499);
        Due.is("999 by 99", x.far(0, 0, 99, 0), 10);
        Due.is("1 by 1", x.far(0, 1, 1, 0), 1);
        Due.is("1 by 2", x.far(0, 1, 2, 0), 0);
        Due.is("0 by 1", x.far(0, 2, 1, 0), 0);
        Due.is("99 by 99", x.far(0, 3, 99, 0), 1);
        Due.is("98 by 99", x.far(0, 4, 99, 0), 0);
        Due.is("not wanted", x.far(0, 5, 1, 0), 0);

        Doc.says("Terms 4", "makers of it whose HOME is within that, there and back: how many.");
        OwnMade y = Due.told("place a;place b;place c;way a b 3;" + GOODS + "person k at a makes u wants u 7 wants v 6 wants w 5 wants x 1 wants y 999;"
                + "person l at b makes u v w x y;person m at a makes x z;person n at c makes u v w x y;");
        Due.is("7 for 6", y.far(0, 0, 1, 1), 1);
        Due.is("6 for 6", y.far(0, 1, 1, 1), 1);
        Due.is("5 for 6", y.far(0, 2, 1, 1), 0);
        Due.is("0 for 0: at home", y.far(0, 3, 2, 1), 1);
        Due.is("0, not wanted, for 0", y.far(0, 5, 1, 1), 1);
        Due.is("999, but no way to c", y.far(0, 4, 1, 1), 1);
    }

    // ---- promises ----

    private static void live() {
        Doc.says("Promise 18", "LIVE with so many (1 to 8) at most on one PLACE, what 0: what the MOSTS come to,");
        OwnMade x = made(FIVE + PAIRS);
        int[] due = {0, 0, 19, 19, 19, 19, 19, 19, 19};
        for (int many = 1; many <= 8; many++) {
            Due.is("with " + many, x.live(many, 0), due[many]);
        }
        Doc.says("Promise 18", "1: on how many PLACES at the fewest;");
        int[] places = {0, 4, 2, 2, 1, 1, 1, 1, 1};
        for (int many = 1; many <= 8; many++) {
            Due.is("with " + many, x.live(many, 1), places[many]);
        }
        OwnMade eight = Due.told(FIVE + EIGHT);
        int[] fewest = {0, -1, 4, 3, 2, 2, 2, 2, 1};
        for (int many = 1; many <= 8; many++) {
            Due.is("eight with " + many, eight.live(many, 1), fewest[many]);
        }
        // k l m in a ring, n o a pair: with four at most two PLACES are enough, with five one
        OwnMade y = made(FIVE + GOODS + "person k at a makes u wants v 5;person l at a makes v wants w 5;person m at a makes w wants u 5;"
                + "person n at a makes x wants y 5;person o at a makes y wants x 5;");
        Due.is("in twos the pair alone", y.live(2, 0) * 10 + y.live(2, 1), 103);
        Due.is("in threes", y.live(3, 0) * 10 + y.live(3, 1), 252);
        Due.is("in fours", y.live(4, 0) * 10 + y.live(4, 1), 252);
        Due.is("in fives", y.live(5, 0) * 10 + y.live(5, 1), 251);
        Doc.says("Promise 18", "NONE: others, no room for all, nobody.");
        for (int other : new int[] {0, -1, 9, Integer.MIN_VALUE, Integer.MAX_VALUE, 1 << 30}) {
            Due.is("with " + other, x.live(other, 0), -1);
        }
        for (int other : Due.others(1)) {
            Due.is("what " + other, x.live(4, other), -1);
        }
        Due.is("8 on 4 by 2", Due.told("place a;place b;place c;place d;" + EIGHT).live(2, 0), 0);
        Due.is("8 on 3 by 2", Due.told("place a;place b;place c;" + EIGHT).live(2, 0), -1);
        Due.is("8 on 1 by 8", Due.told("place a;" + EIGHT).live(8, 0), 0);
        Due.is("8 on 1 by 7", Due.told("place a;" + EIGHT).live(7, 0), -1);
        Due.is("1 on 1 by 1", Due.told("place a;person k at a makes;").live(1, 1), 1);
        Due.is("nobody, but a place", Due.told("place a;").live(1, 0), -1);
        Due.is("nobody, no place", new OwnMade().live(8, 1), -1);
    }

    private static void beside() {
        Doc.says("Promise 19", "Whether two would LIVE on one PLACE in some way that is best: 1 or 0;");
        OwnMade x = made("place a;place b;" + PAIRS);
        int[] due = {1, 0, 0, 0, 0, 1};
        int pair = 0;
        for (int a = 0; a < 4; a++) {
            for (int b = a + 1; b < 4; b++) {
                Due.is("in twos: " + a + " " + b, x.beside(2, a, b), due[pair]);
                Due.is("in twos: " + b + " " + a, x.beside(2, b, a), due[pair]);
                Due.is("in fours", x.beside(4, a, b), 1);
                pair++;
            }
        }
        OwnMade some = made("place a;place b;" + GOODS + "person k at a makes u wants v 5;person l at a makes v wants u 5;person m at a makes;");
        Due.is("m alone in twos", some.beside(2, 1, 2), 0);
        Due.is("in threes in some way", some.beside(3, 1, 2), 1);
        OwnMade one = Due.told(FIVE + "person k at a makes;person l at a makes;");
        Due.is("one by one", one.beside(1, 0, 1), 0);
        Due.is("by twos in some way", one.beside(2, 0, 1), 1);
        Doc.says("Promise 19", "NONE: others, the same, as of live().");
        for (int i = 0; i < 4; i++) {
            Due.is("the same", x.beside(2, i, i), -1);
        }
        for (int other : Due.others(3)) {
            Due.is("a " + other, x.beside(2, other, 0), -1);
            Due.is("b " + other, x.beside(2, 0, other), -1);
        }
        for (int other : new int[] {0, -1, 9, Integer.MIN_VALUE, Integer.MAX_VALUE, 1 << 30}) {
            Due.is("with " + other, x.beside(other, 0, 1), -1);
        }
        Due.is("8 is one of them", x.beside(8, 0, 1), 1);
        Due.is("no room", x.beside(1, 0, 1), -1);
        Due.is("nobody", new OwnMade().beside(2, 0, 1), -1);
        Due.is("one", Due.told("place a;person k at a makes;").beside(2, 0, 1), -1);
    }

    /** what 0: had, 1: never of sets with one that is not there. */
    private static void noSets(OwnMade x, int people, int what) {
        for (int set : new int[] {-1, 1 << people, 1 << people | 1, 1 << 8, 1 << 30, Integer.MIN_VALUE, Integer.MIN_VALUE | 1, Integer.MAX_VALUE}) {
            Due.is("no such set " + set, what == 0 ? x.had(set) : x.never(set), -1);
        }
    }

    private static void had() {
        Doc.says("Promise 20", "HAD in a set as bits;");
        OwnMade x = Due.told("place a;" + GOODS + "person k at a makes u z;person l at a makes x;");
        Due.is("two", x.had(1), 33);
        Due.is("three", x.had(3), 41);
        Due.is("nobody", x.had(0), 0);
        Doc.says("Promise 20", "NONE: no such set.");
        noSets(x, 2, 0);
        noSets(Due.told("place a;" + EIGHT), 8, 0);
        Due.is("all eight", Due.told("place a;" + EIGHT).had(255), 0);
        Due.is("nobody there", new OwnMade().had(0) * 10 + new OwnMade().had(1), -1);
    }

    private static void never() {
        Doc.says("Promise 21", "NEVER had in a set as bits;");
        OwnMade x = Due.told("place a;" + GOODS + "person k at a makes u wants u 1 wants z 1;person l at a makes z wants v 1;");
        Due.is("z", x.never(1), 32);
        Due.is("v", x.never(2), 2);
        Due.is("v still", x.never(3), 2);
        Due.is("nobody", x.never(0), 0);
        Doc.says("Promise 21", "NONE: no such set.");
        noSets(x, 2, 1);
        noSets(Due.told("place a;" + EIGHT), 8, 1);
        Due.is("all eight", Due.told("place a;" + EIGHT).never(255), 0);
        Due.is("nobody there", new OwnMade().never(0) * 10 + new OwnMade().never(1), -1);
    }

    private static void fewest() {
        Doc.says("Promise 22", "FEWEST with one, what 0: how many, 1: as bits;");
        OwnMade x = Due.told("place a;" + GOODS + "person k at a makes wants u 1;person l at a makes wants u 1;person m at a makes u;"
                + "person n at a makes wants v 1;");
        Due.is("two", x.fewest(0, 0) * 10 + x.fewest(0, 1), 25);
        Due.is("two", x.fewest(1, 0) * 10 + x.fewest(1, 1), 26);
        Due.is("one", x.fewest(2, 0) * 10 + x.fewest(2, 1), 14);
        Due.is("the first one alone", Due.told("place a;" + EIGHT).fewest(0, 0) * 10 + Due.told("place a;" + EIGHT).fewest(0, 1), 11);
        Due.is("one of eight", Due.told("place a;" + EIGHT).fewest(7, 1), 128);
        Doc.says("Promise 22", "NONE: others, none.");
        Due.is("none", x.fewest(3, 0), -1);
        Due.is("none", x.fewest(3, 1), -1);
        for (int other : Due.others(3)) {
            Due.is("one " + other, x.fewest(other, 0), -1);
        }
        for (int other : Due.others(1)) {
            Due.is("what " + other, x.fewest(0, other), -1);
        }
    }

    private static void fair() {
        Doc.says("Promise 23", "FAIR at a PLACE, what 0: what it comes to (it may be below 0), 1: who comes as bits.");
        OwnMade x = made("place a;place b;way a b 3;" + GOODS + "person k at a makes u wants v 5;person l at b makes v wants u 4;");
        Due.is("3", x.fair(1, 6, 1, 0) * 10 + x.fair(1, 6, 1, 1), 33);
        Due.is("below 0", x.fair(1, 6, 2, 0), -3);
        Due.is("0", x.fair(1, 5, 2, 0), 0);
        Due.is("l", x.fair(1, 5, 2, 1), 2);
        Due.is("nobody is there", Due.told("place a;").fair(0, 168, 99, 0), 0);
        Doc.says("Promise 23", "NoSuchElementException: others (HOURS 0 to 168).");
        Due.is("168, 99", x.fair(1, 168, 99, 1), 3);
        Due.is("0, 0", x.fair(1, 0, 0, 1), 2);
        for (int other : Due.others(1)) {
            Due.throwsNone("place " + other, () -> x.fair(other, 5, 5, 0));
            Due.throwsNone("what " + other, () -> x.fair(0, 5, 5, other));
        }
        for (int other : Due.others(168)) {
            Due.throwsNone("hours " + other, () -> x.fair(0, other, 5, 0));
        }
        for (int other : Due.others(99)) {
            Due.throwsNone("price " + other, () -> x.fair(0, 5, other, 1));
        }
        Due.throwsNone("no place", () -> new OwnMade().fair(0, 5, 5, 0));
    }

    private static void fairest() {
        Doc.says("Promise 24", "The best PLACE for a FAIR;");
        OwnMade x = made("place a;place b;place c;way b c 3;" + GOODS + "person k at b makes u wants v 5;person l at c makes v wants u 4;");
        Due.is("b, then c", x.fairest(6, 0), 1);
        Due.is("9 less 6", x.fairest(6, 1), 1);
        Due.is("9 less 12: a, where nobody comes", x.fairest(6, 2), 0);
        Due.is("nobody goes", x.fairest(5, 0), 0);
        Doc.says("Promise 24", "NONE: others, no PLACE.");
        Due.is("168, 99", x.fairest(168, 99), 0);
        Due.is("0, 0", x.fairest(0, 0), 0);
        for (int other : Due.others(168)) {
            Due.is("hours " + other, x.fairest(other, 5), -1);
        }
        for (int other : Due.others(99)) {
            Due.is("price " + other, x.fairest(5, other), -1);
        }
        Due.is("no place", new OwnMade().fairest(5, 5), -1);
        Due.is("a place, nobody", Due.told("place a;").fairest(5, 5), 0);
    }

    private static void far() {
        Doc.says("Promise 25", "FAR, what 0: HOURS, 1: how many makers (not oneself);");
        OwnMade x = Due.told("place a;place b;way a b 4;" + GOODS + "person k at a makes u wants u 8 wants v 7;person l at b makes u v;"
                + "person m at a makes u v;");
        Due.is("8", x.far(0, 0, 1, 0) * 10 + x.far(0, 0, 1, 1), 82);
        Due.is("7", x.far(0, 1, 1, 0) * 10 + x.far(0, 1, 1, 1), 71);
        Due.is("not oneself", x.far(2, 0, 1, 1), 1);
        Due.is("nobody else", x.far(2, 1, 1, 1), 0);
        Due.is("from home", x.go(0, 1) * 10 + x.far(0, 1, 1, 1), 1);
        Doc.says("Promise 25", "NONE: others (PRICE 1 to 99).");
        Due.is("1", x.far(0, 0, 1, 0), 8);
        Due.is("99", x.far(0, 0, 99, 0), 0);
        for (int other : new int[] {0, -1, 100, Integer.MIN_VALUE, Integer.MAX_VALUE}) {
            Due.is("price " + other, x.far(0, 0, other, 0), -1);
        }
        for (int other : Due.others(2)) {
            Due.is("one " + other, x.far(other, 0, 1, 0), -1);
        }
        for (int other : Due.others(5)) {
            Due.is("good " + other, x.far(0, other, 1, 0), -1);
        }
        for (int other : Due.others(1)) {
            Due.is("what " + other, x.far(0, 0, 1, other), -1);
        }
    }
}
