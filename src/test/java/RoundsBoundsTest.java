/** The boundaries of Terms, part 3, and of promises 14 to 17 and 31, sentence by sentence: rounds. */
final class RoundsBoundsTest {
    private static final String[] GOODS = {"u", "v", "w", "x", "y", "z"};
    private static final String NAMES = "klmnopqr";
    private static final String LAND = "place a;place b;way a b 5;good u hours 1;good v hours 1;good w hours 1;"
            + "good x hours 1;good y hours 1;good z hours 1;";

    public static void main(String[] args) {
        asIfAtOnePlace();
        sizes();
        gives();
        happier();
        worth();
        most();
        at();
        length();
        changes();
        Doc.whole("Terms 3");
        promiseRound();
        promiseMost();
        promiseAt();
        promiseLength();
        visited();
        Doc.wholePromises(14, 17);
        Doc.whole("Promise 31");
        Due.end("RoundsBoundsTest");
    }

    /** Each of these people makes one of each GOOD that they make. */
    private static OwnMade made(String people) {
        OwnMade x = Due.told(LAND + people);
        for (int i = 0; i < x.count(2); i++) {
            for (int good = 0; good < 6; good++) {
                if ((x.person(i, 5) >> good & 1) == 1) {
                    Due.is("made", x.make(i, -1, good, 0), 0);
                }
            }
        }
        return x;
    }

    private static String person(int i, String rest) {
        return "person " + NAMES.charAt(i) + " at a makes " + rest + ";";
    }

    /** So many in a ring, each wants what the next one makes; before them so many who make nothing. */
    private static OwnMade ring(int before, int many, int firstWorth, int worth) {
        StringBuilder people = new StringBuilder();
        for (int i = 0; i < before; i++) {
            people.append(person(i, ""));
        }
        for (int i = 0; i < many; i++) {
            people.append(person(before + i, GOODS[i] + " wants " + GOODS[(i + 1) % many] + " " + (i == 0 ? firstWorth : worth)));
        }
        return made(people.toString());
    }

    private static int set(int first, int many) {
        return (1 << many) - 1 << first;
    }

    private static void asIfAtOnePlace() {
        Doc.says("Terms 3", "ROUNDS among a set of PEOPLE as if they were at one PLACE (door is 0):");
        OwnMade x = made(person(0, "u wants v 5") + "person l at b makes v wants u 4;");
        Due.is("apart", x.round(3), 9);
        Due.is("but not there", x.at(0) + x.at(1), 0);
        Due.rule(x, "lawful when own and not door;");
        Due.is("door is 0, though all are at home", x.round(3), 9);
        Due.rule(x, "lawful when own and door;");
        Due.is("door is not 1", x.round(3), -1);
        Due.is("nor for the most, the length", x.most(3, 0) + x.length(3), -1);
    }

    private static void sizes() {
        Doc.says("Terms 3", "2 to 5 of them in a ring,");
        for (int many = 2; many <= 6; many++) {
            for (int before = 0; before + many <= 8; before++) {
                OwnMade x = ring(before, many, 1, 1);
                int due = many <= 5 ? many : -1;
                Due.is(many + " behind " + before, x.round(set(before, many)), due);
                Due.is("length", x.length(set(0, before + many)), due);
                Due.is("most", x.most(set(0, before + many), 0), Math.max(due, 0));
                Due.is("not all but the first", x.round(set(before + 1, many - 1)), -1);
                Due.is("not all but the last", x.round(set(before, many - 1)), -1);
            }
        }
        OwnMade one = made(person(0, "u wants u 5 wants v 9"));
        Due.is("one alone", one.round(1), -1);
        Due.is("and nothing with oneself", one.most(1, 0), 0);
    }

    private static void gives() {
        Doc.says("Terms 3", "each gives one THING to the next that is LAWFUL for both,");
        OwnMade x = made(person(0, "u v wants w 5") + person(1, "w wants u 4 wants v 3"));
        Due.is("one of two: u", x.round(3), 9);
        Due.rule(x, "lawful when good = 1 or good = 2;");
        Due.is("the other: v", x.round(3), 8);
        Due.rule(x, "lawful when good < 2;");
        Due.is("not w", x.round(3), -1);
        Due.rule(x, "lawful when good = 2;");
        Due.is("only w", x.round(3), -1);
        OwnMade none = Due.told(LAND + person(0, "u wants v 5") + person(1, "v wants u 5"));
        Due.is("nothing is held", none.round(3), -1);
        Due.is("one has one", none.make(0, -1, 0, 0) * 10 + none.round(3), -1);
        Due.is("both have", none.make(1, -1, 1, 0) + none.round(3), 10);
        OwnMade homes = made(person(0, "u wants v 5") + "person l at b makes v wants u 4;" + person(2, "v wants u 1"));
        Due.rule(homes, "lawful when away < 5;");
        Due.is("to b is 5", homes.round(3), -1);
        Due.is("to a is 0", homes.round(5), 6);
        Due.rule(homes, "lawful when away < 6;");
        Due.is("below 6", homes.round(3), 9);
    }

    private static void happier() {
        Doc.says("Terms 3", "and each is HAPPIER by it than before.");
        String q = person(1, "v wants u 9");
        Due.is("as much", made(person(0, "u wants u 5 wants v 5") + q).round(3), -1);
        Due.is("more by 1", made(person(0, "u wants u 5 wants v 6") + q).round(3), 10);
        Due.is("less by 1", made(person(0, "u wants u 5 wants v 4") + q).round(3), -1);
        Due.is("by 0 of nothing", made(person(0, "u wants v 0") + q).round(3), -1);
        Due.is("by 1 of nothing", made(person(0, "u wants v 1") + q).round(3), 10);
        for (int many = 2; many <= 5; many++) {
            Due.is("one of " + many + " is not happier", ring(0, many, 0, 7).round(set(0, many)), -1);
            Due.is("by 1", ring(0, many, 1, 7).round(set(0, many)), 1 + 7 * (many - 1));
        }
        // p holds u and v: a third worth, and the same GOOD for another of it
        OwnMade x = made(person(0, "u v wants v 9 3") + person(1, "v wants u 1"));
        Due.is("the second v: 3 and 1", x.round(3), 4);
        OwnMade y = made(person(0, "u v wants v 9") + person(1, "v wants u 1"));
        Due.is("a second v is worth nothing", y.round(3), -1);
        OwnMade same = made(person(0, "u wants u 9 9") + person(1, "u wants u 9 9"));
        Due.is("u for u", same.round(3), -1);
        OwnMade three = made(person(0, "u wants v 5 5 5") + person(1, "v wants u 1 1 1"));
        for (int many = 0; many <= 3; many++) {
            Due.is("held: " + many, three.round(3), many < 3 ? 6 : -1);
            Due.is("given", three.give(0, 1, 2 * many) + three.give(1, 0, 2 * many + 1), 0);
            Due.is("and one more to give", three.make(0, -1, 0, 0) + three.make(1, -1, 1, 0), 0);
        }
    }

    private static void worth() {
        Doc.says("Terms 3", "What it is WORTH: how much HAPPIER all are.");
        Due.is("the least: 1 and 1", ring(0, 2, 1, 1).round(3), 2);
        Due.is("the most: five by 999", ring(0, 5, 999, 999).round(31), 4995);
        Due.is("less what is given", made(person(0, "u wants u 998 wants v 999") + person(1, "v wants v 1 wants u 2")).round(3), 2);
        Due.is("three, each less what is given: 4, 3, 1", made(person(0, "u wants u 1 wants v 5") + person(1, "v wants v 2 wants w 5")
                + person(2, "w wants w 4 wants u 5")).round(7), 8);
        // k gives to l, l to m, m to k; one of them may give x, too
        for (int good = 1; good <= 2; good++) {
            String better = good == 1 ? " 3 wants x 1" : " 1 wants x 3";
            Due.is("the first one gives the better", made(person(0, "u x wants w 5") + person(1, "v wants u" + better)
                    + person(2, "w wants v 5")).round(7), 13);
            Due.is("the second one does", made(person(0, "u wants w 5") + person(1, "v x wants u 5")
                    + person(2, "w wants v" + better)).round(7), 13);
            Due.is("the third one does", made(person(0, "u wants w" + better) + person(1, "v wants u 5")
                    + person(2, "w x wants v 5")).round(7), 13);
        }
        Due.is("of two ways round the better", made(person(0, "u wants v 1 wants w 5") + person(1, "v wants w 1 wants u 5")
                + person(2, "w wants u 1 wants v 5")).round(7), 15);
    }

    private static void most() {
        Doc.says("Terms 3", "The MOST of a set: sets of PEOPLE apart, each of them in one ROUND, or in none, together WORTH the most.");
        OwnMade x = made(person(0, "u x wants v 5 wants w 4") + person(1, "v wants u 5") + person(2, "w wants x 4"));
        Due.is("k and l", x.round(3), 10);
        Due.is("k and m", x.round(5), 8);
        Due.is("k is in one of them only", x.most(7, 0), 10);
        Due.is("m with k", x.most(5, 0), 8);
        Due.is("in none", x.most(6, 0), 0);
        // k l, m n 10 each; l m 19, then 20, then 21
        int[] due = {20, 20, 21};
        for (int more = 0; more < 3; more++) {
            OwnMade y = made(person(0, "u wants v 5") + person(1, "v y wants u 5 wants w 9") + person(2, "w z wants y " + (10 + more) + " wants x 5")
                    + person(3, "x wants z 5"));
            Due.is("l and m", y.round(6), 19 + more);
            Due.is("two pairs", y.round(3) + y.round(12), 20);
            Due.is("the most", y.most(15, 0), due[more]);
        }
        StringBuilder eight = new StringBuilder();
        for (int i = 0; i < 8; i++) {
            eight.append(person(i, i % 2 == 0 ? "u wants v 999" : "v wants u 999"));
        }
        OwnMade all = made(eight.toString());
        Due.is("all eight", all.most(255, 0), 7992);
        Due.is("seven: one u is too many", all.most(127, 0), 5994);
        Due.is("nobody", all.most(0, 0), 0);
        Due.is("one", all.most(128, 0), 0);
    }

    private static void at() {
        Doc.says("Terms 3", "AT a PLACE: the MOST of those who are there now, door being 1 for those whose HOME it is.");
        OwnMade x = Due.told(LAND + person(0, "u wants v 5") + "person l at b makes v wants u 4;" + person(2, "w"));
        x.make(0, -1, 0, 0);
        x.make(1, -1, 1, 0);
        Due.is("two at a, one at b", x.at(0) + x.at(1), 0);
        x.mark(0, false);
        Due.is("l at a", x.go(1, 0) + x.at(0), 9);
        Due.is("nobody is at b", x.at(1), 0);
        Due.rule(x, "lawful when door;");
        Due.is("l is not at home", x.at(0), 0);
        Due.rule(x, "lawful when door or good = 1;");
        Due.is("k is", x.at(0), 9);
        Due.rule(x, "lawful when door or good = 0;");
        Due.is("l is not", x.at(0), 0);
        Due.rule(x, "lawful when not door or good = 0;");
        Due.is("door is 0 for l", x.at(0), 9);
        x.mark(0, true);
        Due.is("k at b", x.go(0, 1), 0);
        Due.is("door is 0 for k, 1 for l", x.at(1), 0);
        Due.rule(x, "lawful when door or good = 1;");
        Due.is("door is 0 for k", x.at(1), 0);
        Due.rule(x, "lawful when door or good = 0;");
        Due.is("door is 1 for l", x.at(1), 9);
        Due.is("m is alone", x.at(0), 0);
        OwnMade y = made(person(0, "u wants v 5") + person(1, "v wants u 4"));
        Due.rule(y, "lawful when door;");
        Due.is("both at home", y.at(0), 9);
        Due.is("door is 0 again for others", y.most(3, 0), 0);
    }

    private static void length() {
        Doc.says("Terms 3", "LENGTH: the fewest people with whom a ROUND among a set is there at all.");
        OwnMade x = made(person(0, "u wants v 9") + person(1, "v wants w 9") + person(2, "w wants u 9 wants v 1"));
        Due.is("two, though three are worth more", x.length(7), 2);
        Due.is("l and m", x.length(6), 2);
        Due.is("k and m", x.length(5), -1);
        OwnMade y = made(person(0, "u wants v 9") + person(1, "v wants w 9") + person(2, "w wants u 9 wants v 0"));
        Due.is("three", y.length(7), 3);
        Due.is("two of three", y.length(6), -1);
        Due.is("nobody", y.length(0), -1);
        Due.is("one", y.length(1), -1);
        // a ring of five, and one of four in it: the third one passes the fifth by
        OwnMade z = made(person(0, "u wants v 3") + person(1, "v wants w 3") + person(2, "w wants x 3") + person(3, "x wants y 3 wants u 1")
                + person(4, "y wants u 3"));
        Due.is("four", z.length(31), 4);
        Due.is("four alone", z.length(15), 4);
        Due.is("five are worth more", z.most(31, 0), 15);
    }

    /** Whatever changes a ROUND is seen by the next call. */
    private static void changes() {
        String land = "place a;good u hours 1;good v hours 1;" + person(0, "u wants v 5") + person(1, "v wants u 4");
        OwnMade x = Due.told(land);
        Due.is("nothing", x.most(3, 0), 0);
        Due.is("u made, v not yet", x.make(0, -1, 0, 0) + x.most(3, 0), 0);
        Due.is("both are made", x.make(1, 0, 1, 0) * 10 + x.most(3, 0), 0);
        Due.is("v of both is lifted", x.lifted(1, true) ? x.most(3, 0) : -1, 9);
        Due.is("a mark", x.mark(0, false), true);
        Due.is("not lifted", x.lifted(1, false) ? x.most(3, 0) : -1, 0);
        Due.is("gone back to", x.mark(0, true) ? x.most(3, 0) : -1, 9);
        Due.is("u is given", x.give(0, 1, 0) + x.most(3, 0), 0);
        Due.is("gone back to", x.mark(0, true) ? x.most(3, 0) : -1, 9);
        Due.is("nothing is lawful", Due.rule(x, "lawful when 0;") + x.most(3, 0), 0);
        Due.is("all is", Due.rule(x, "lawful when 1;") + x.most(3, 0), 9);
        Due.is("a rule with a FAULT", Due.rule(x, "lawful when 0;lawful") > 0 ? x.most(3, 0) : -1, 9);
        Due.is("a land with a FAULT", Due.land(x, "place a;place") > 0 ? x.most(3, 0) : -1, 9);
        Due.is("a new land", Due.land(x, land) + x.most(3, 0), 0);
    }

    // ---- promises ----

    private static void promiseRound() {
        Doc.says("Promise 14", "What the best ROUND is WORTH in which all of a set are (door 0);");
        OwnMade x = ring(0, 5, 2, 2);
        Due.is("all five", x.round(31), 10);
        Due.is("four of them", x.round(15), -1);
        Due.is("six", x.round(63), -1);
        OwnMade two = made(person(0, "u x wants v 5 wants y 6") + person(1, "v y wants u 4 wants x 2"));
        Due.is("the best of four", two.round(3), 10);
        Doc.says("Promise 14", "NONE: no such set, none.");
        noSets(x, 5, 0);
        for (int i = 0; i < 5; i++) {
            Due.is("one alone", x.round(1 << i), -1);
        }
        Due.is("nobody", x.round(0), -1);
        OwnMade eight = made(person(0, "u wants v 5") + person(1, "v wants u 5") + person(2, "") + person(3, "") + person(4, "")
                + person(5, "") + person(6, "w wants x 1") + person(7, "x wants w 1"));
        Due.is("the first two of eight", eight.round(3), 10);
        Due.is("the last two of eight", eight.round(192), 2);
        Due.is("all eight", eight.round(255), -1);
        noSets(eight, 8, 0);
    }

    /** what 0: round, 1: most, 2: length of sets with one that is not there. */
    private static void noSets(OwnMade x, int people, int what) {
        for (int set : new int[] {-1, 1 << people, 1 << people | 3, 1 << 8, 1 << 30, Integer.MIN_VALUE, Integer.MIN_VALUE | 3, Integer.MAX_VALUE}) {
            int got = what == 0 ? x.round(set) : what == 1 ? x.most(set, 0) : x.length(set);
            Due.is("no such set " + set, got, -1);
        }
    }

    private static void promiseMost() {
        Doc.says("Promise 15", "MOST of a set (door 0; it may be of nobody), what 0: its WORTH,");
        OwnMade x = ring(0, 3, 4, 4);
        Due.is("of three", x.most(7, 0), 12);
        Due.is("of two", x.most(3, 0), 0);
        Due.is("of nobody", x.most(0, 0), 0);
        Due.is("of nobody there", new OwnMade().most(0, 0), 0);
        Doc.says("Promise 15", "1: how many ROUNDS (of equal ones the fewest),");
        for (int v = 4; v <= 6; v++) {
            // the pairs are worth 20, the ring of four 19, 20, 21
            OwnMade y = made(person(0, "u wants v 5 wants x " + v) + person(1, "v wants u 5") + person(2, "w wants x 5 wants v 5")
                    + person(3, "x wants w 5"));
            Due.is("ring", y.round(15), 15 + v);
            Due.is("rounds", y.most(15, 1), v == 4 ? 2 : 1);
            Due.is("worth", y.most(15, 0), v == 6 ? 21 : 20);
        }
        Due.is("none", x.most(3, 1), 0);
        Due.is("of nobody", x.most(0, 1), 0);
        Doc.says("Promise 15", "2: how many PEOPLE are in them at the least (of those with the fewest ROUNDS);");
        for (int u = 0; u <= 2; u++) {
            // k and l: 10; k, l, m: 9 and u
            OwnMade y = made(person(0, "u wants v 5") + person(1, "v wants u 5 wants w 4") + person(2, "w wants u " + u));
            Due.is("ring", y.round(7), u == 0 ? -1 : 9 + u);
            Due.is("people", y.most(7, 2), u == 2 ? 3 : 2);
            Due.is("one round", y.most(7, 1), 1);
            Due.rule(y, "lawful when 0;");
            Due.is("nothing is lawful: nobody, in no round", y.most(7, 2) * 10 + y.most(7, 1) + y.most(7, 0), 0);
        }
        // k and n, or k, l and m
        OwnMade later = made(person(0, "u x wants v 5 wants z 5") + person(1, "v wants w 4") + person(2, "w wants u 1")
                + person(3, "z wants x 5"));
        Due.is("both are worth 10", later.round(9) * 100 + later.round(7), 1010);
        Due.is("one round of two", later.most(15, 1) * 10 + later.most(15, 2), 12);
        StringBuilder eight = new StringBuilder();
        for (int i = 0; i < 8; i++) {
            eight.append(person(i, i % 2 == 0 ? "u wants v 999" : "v wants u 999"));
        }
        OwnMade all = made(eight.toString());
        Due.is("four and four", all.most(255, 1) * 10 + all.most(255, 2), 28);
        Due.is("four and two", all.most(63, 1) * 10 + all.most(63, 2), 26);
        Due.is("six of seven", all.most(127, 1) * 10 + all.most(127, 2), 26);
        Due.is("none", x.most(6, 2), 0);
        Due.is("of nobody", x.most(0, 2), 0);
        Doc.says("Promise 15", "NONE: others.");
        noSets(x, 3, 1);
        noSets(all, 8, 1);
        for (int other : Due.others(2)) {
            Due.is("what " + other, x.most(7, other), -1);
            Due.is("what " + other, x.most(0, other), -1);
        }
        Due.is("one where nobody is", new OwnMade().most(1, 0), -1);
    }

    private static void promiseAt() {
        Doc.says("Promise 16", "AT a PLACE now;");
        OwnMade x = made(person(0, "u wants v 5") + person(1, "v wants u 5"));
        Due.is("both", x.at(0), 10);
        Due.is("nobody", x.at(1), 0);
        Due.is("one has gone", x.go(0, 1) + x.at(0) + x.at(1), 0);
        Due.is("both have", x.go(1, 1) + x.at(1), 10);
        Doc.says("Promise 16", "NONE: no such one.");
        for (int other : Due.others(1)) {
            Due.is("place " + other, x.at(other), -1);
        }
        Due.is("no place at all", new OwnMade().at(0), -1);
    }

    private static void promiseLength() {
        Doc.says("Promise 17", "LENGTH;");
        Due.is("2", ring(0, 2, 1, 1).length(3), 2);
        Due.is("5", ring(3, 5, 1, 1).length(255), 5);
        Doc.says("Promise 17", "NONE: no such set, none.");
        OwnMade x = ring(0, 6, 1, 1);
        Due.is("not six", x.length(63), -1);
        Due.is("nobody", x.length(0), -1);
        noSets(x, 6, 2);
        noSets(ring(3, 5, 1, 1), 8, 2);
        Due.is("nobody there", new OwnMade().length(0), -1);
    }

    private static void visited() {
        Doc.says("Promise 31", "Who is visited most: of the PEOPLE the one who would be in the most ROUNDS of two with others (door 0) "
                + "that are there now; of equal ones the first.");
        OwnMade x = made(person(0, "u wants v 1") + person(1, "v wants u 1 wants w 1") + person(2, "w wants v 9"));
        Due.is("two before one", x.visited(), 1);
        OwnMade equal = made(person(0, "") + person(1, "u wants v 1") + person(2, "v wants u 999"));
        Due.is("one each: the first of them", equal.visited(), 1);
        OwnMade last = made(person(0, "u wants v 1") + person(1, "v wants u 1") + person(2, "") + person(3, "") + person(4, "") + person(5, "")
                + person(6, "u wants v 1") + person(7, "v w wants u 1"));
        Due.is("two each: the first", last.visited(), 0);
        OwnMade seven = made(person(0, "u wants v 1") + person(1, "w wants v 1") + person(2, "x") + person(3, "") + person(4, "") + person(5, "")
                + person(6, "") + person(7, "v wants u 1 wants w 1"));
        Due.is("the last one with two", seven.visited(), 7);
        Due.is("a ring of three is none of two", ring(0, 3, 1, 1).visited(), 0);
        Due.is("none at all: the first", made(person(0, "") + person(1, "")).visited(), 0);
        OwnMade door = made(person(0, "") + person(1, "u wants v 1") + person(2, "v wants u 1"));
        Due.rule(door, "lawful when door;");
        Due.is("door is 0", door.visited(), 0);
        Due.rule(door, "lawful when not door;");
        Due.is("so it is", door.visited(), 1);
        Due.is("that are there now: given", door.give(1, 2, 0), 6);
        Due.rule(door, "");
        Due.is("given", door.give(1, 2, 0) + door.visited(), 0);
        Doc.says("Promise 31", "NONE: nobody.");
        Due.is("nobody", new OwnMade().visited(), -1);
        Due.is("nobody, but a place", Due.told("place a;").visited(), -1);
        Due.is("one", Due.told("place a;person p at a makes;").visited(), 0);
    }
}
