/** Promises 9 to 13, 32, 33: make, go, give, thing, lawful, mark, count. */
final class WeekTest {
    private static final String LAND = "place hill;place ford;place isle;way hill ford 3;"
            + "good wood hours 2;good table hours 24 from wood;good nail hours 1;good chest hours 3 from wood nail;"
            + "person ann at hill makes wood table chest wants table 10 4;"
            + "person bob at ford makes wood nail wants wood 6 5 4 wants nail 3;"
            + "person cat at hill makes table nail wants nail 2;";

    public static void main(String[] args) {
        makeWhyNot();
        makeOrder();
        makeDone();
        makeFull();
        go();
        giveWhyNot();
        giveDone();
        thing();
        lawful();
        mark();
        count();
        Due.end("WeekTest");
    }

    private static void makeWhyNot() {
        OwnMade x = Due.told(LAND);
        Due.is("no such one", x.make(3, -1, 0, 0), 1);
        Due.is("no such one", x.make(-1, -1, 0, 0), 1);
        Due.is("no such other", x.make(0, 3, 0, 0), 1);
        Due.is("no such other", x.make(0, -2, 0, 0), 1);
        Due.is("oneself", x.make(0, 0, 0, 0), 1);
        Due.is("no such good", x.make(0, -1, 4, 0), 1);
        Due.is("no such good", x.make(0, -1, -1, 0), 1);
        Due.is("no such sort", x.make(0, -1, 0, 4), 1);
        Due.is("no such sort", x.make(0, -1, 0, -1), 1);
        Due.is("wood is missing", x.make(0, -1, 1, 0), 3);
        Due.is("not made by one", x.make(1, -1, 1, 0), 3);
        Due.is("not made by either", x.make(1, 2, 3, 0), 3);
        Due.is("not at the same place", x.make(0, 1, 0, 0), 4);
        Due.is("3 before 4", x.make(0, 1, 1, 0), 3);
        Due.is("nothing was done", x.count(3), 0);
        Due.is("no clock went on", x.person(0, 2) + x.person(1, 2) + x.person(2, 2), 0);
    }

    /** To and fro takes 3 hours each time. */
    private static void travel(OwnMade x, int person, int times) {
        for (int i = 0; i < times; i++) {
            Due.is("to and fro", x.go(person, x.person(person, 1) == 0 ? 1 : 0), 0);
        }
    }

    private static void makeOrder() {
        OwnMade x = Due.told(LAND);
        travel(x, 0, 55);
        Due.is("clock", x.person(0, 2), 165);
        Due.is("2 before 3", x.make(0, -1, 1, 0), 2);
        Due.is("2 before 4", x.make(2, 0, 1, 0), 2);
        Due.is("the other's clock counts", x.make(1, 0, 1, 0), 2);
        Due.is("4, though 2 + 165 is within", x.make(2, 0, 0, 0), 4);
        Due.is("still within", x.make(0, -1, 0, 0), 0);
        Due.is("167", x.person(0, 2), 167);
        Due.is("beyond 168", x.make(0, -1, 0, 0), 2);
        Due.is("1 before 2", x.make(0, -1, 0, 7), 1);
        OwnMade y = Due.told(LAND);
        travel(y, 0, 48);
        y.make(2, -1, 2, 0);
        Due.is("144 and 24", y.make(2, -1, 1, 0), 3);
        Due.is("wood", y.make(0, -1, 0, 0), 0);
        Due.is("beyond by two", y.make(0, -1, 1, 0), 2);
        OwnMade z = Due.told("place a;good g hours 24;person p at a makes g;");
        for (int i = 1; i <= 7; i++) {
            Due.is("a day", z.make(0, -1, 0, 0), 0);
        }
        Due.is("just 168", z.person(0, 2), 168);
        Due.is("no more", z.make(0, -1, 0, 0), 2);
    }

    private static void makeDone() {
        OwnMade x = Due.told(LAND);
        Due.is("nail by cat", x.make(2, -1, 2, 3), 0);
        Due.is("wood 1", x.make(0, -1, 0, 1), 0);
        Due.is("wood 2", x.make(0, -1, 0, 2), 0);
        Due.is("the nail is not held by the first one", x.make(0, 2, 3, 0), 3);
        Due.is("a table of one and another", x.make(0, 2, 1, 0), 0);
        Due.is("the least number is used up", x.thing(1, 3), -1);
        Due.is("the other wood is not", x.thing(2, 3), 0);
        Due.is("the first one holds it", x.thing(3, 3), 0);
        Due.is("both are makers", x.thing(3, 2), 5);
        Due.is("done at the later clock and hours", x.thing(3, 4), 28);
        Due.is("one clock", x.person(0, 2), 28);
        Due.is("the other clock", x.person(2, 2), 28);
        Due.is("cat is at one of 24 now", x.make(2, 0, 2, 0), 0);
        Due.is("cat holds it", x.thing(4, 3), 2);
        Due.is("given", x.give(2, 0, 0), 0);
        Due.is("a chest of wood and nail", x.make(0, -1, 3, 1), 0);
        Due.is("used up", x.thing(0, 3), -1);
        Due.is("used up", x.thing(2, 3), -1);
        Due.is("alone", x.thing(5, 2), 1);
        Due.is("sort", x.thing(5, 1), 1);
        Due.is("hour", x.thing(5, 4), 32);
        Due.is("only the one's clock went on", x.person(2, 2), 29);
        Due.is("a nail with ann, who makes none", x.make(0, 2, 2, 0), 0);
        Due.is("later of both", x.person(2, 2), 33);
    }

    private static void makeFull() {
        OwnMade x = Due.told("place a;place b;good g hours 1;good h hours 1 from g;person p at a makes g h;person q at b makes g;");
        for (int i = 0; i < 40; i++) {
            Due.is("thing " + i, x.make(0, -1, i == 39 ? 1 : 0, 0), 0);
        }
        Due.is("40", x.count(3), 40);
        Due.is("39 held", x.count(4), 39);
        Due.is("no more", x.make(0, -1, 0, 0), 7);
        Due.is("nor what would use one up", x.make(0, -1, 1, 0), 7);
        Due.is("nor by another", x.make(1, -1, 0, 0), 7);
        Due.is("4 before 7", x.make(0, 1, 0, 0), 4);
        Due.is("3 before 7", x.make(1, -1, 1, 0), 3);
        Due.is("1 before 7", x.make(0, -1, 2, 0), 1);
        Due.is("nothing is used up", x.count(4), 39);
        Due.is("no clock went on", x.person(0, 2), 40);
    }

    private static void go() {
        OwnMade x = Due.told(LAND);
        Due.is("no such one", x.go(3, 0), 1);
        Due.is("no such one", x.go(-1, 0), 1);
        Due.is("no such place", x.go(0, 3), 1);
        Due.is("no such place", x.go(0, -1), 1);
        Due.is("no way", x.go(0, 2), 2);
        Due.is("to where one is", x.go(0, 0), 0);
        Due.is("that takes nothing", x.person(0, 2), 0);
        Due.is("to the ford", x.go(0, 1), 0);
        Due.is("is there", x.person(0, 1), 1);
        Due.is("3 hours", x.person(0, 2), 3);
        travel(x, 0, 55);
        Due.is("just 168", x.person(0, 2), 168);
        Due.is("no more", x.go(0, 1), 2);
        Due.is("stays", x.person(0, 1), 0);
        Due.is("but to where one is", x.go(0, 0), 0);
        OwnMade y = Due.told("place a;place b;place c;way a b 2;way b c 2;way a c 9;person p at a makes;");
        Due.is("by the shortest way", y.go(0, 2), 0);
        Due.is("4 hours", y.person(0, 2), 4);
    }

    private static void giveWhyNot() {
        OwnMade x = Due.told(LAND);
        Due.is("no thing yet", x.give(0, 2, 0), 1);
        x.make(0, -1, 0, 0);
        x.make(0, -1, 1, 0);
        x.make(0, 2, 0, 0);
        Due.is("no such giver", x.give(3, 0, 1), 1);
        Due.is("no such giver", x.give(-1, 0, 1), 1);
        Due.is("no such receiver", x.give(0, 3, 1), 1);
        Due.is("no such receiver", x.give(0, -1, 1), 1);
        Due.is("oneself", x.give(0, 0, 1), 1);
        Due.is("no such thing", x.give(0, 2, 3), 1);
        Due.is("no such thing", x.give(0, 2, -1), 1);
        Due.is("not at the same place", x.give(0, 1, 1), 4);
        Due.is("4 before 5", x.give(1, 0, 1), 4);
        Due.is("not held", x.give(2, 0, 1), 5);
        Due.is("used up", x.give(0, 2, 0), 5);
        Due.is("not lawful", x.give(0, 2, 2), 6);
        Due.is("5 before 6", x.give(2, 0, 2), 5);
        Due.is("nothing is given", x.person(0, 4), 2);
        Due.is("no clock went on", x.person(1, 2), 0);
    }

    private static void giveDone() {
        OwnMade x = Due.told(LAND);
        x.make(0, -1, 0, 0);
        Due.is("given", x.give(0, 2, 0), 0);
        Due.is("the giver's hour", x.person(2, 2), 2);
        Due.is("both", x.person(0, 2), 2);
        Due.is("held", x.thing(0, 3), 2);
        Due.is("made by ann still", x.thing(0, 2), 1);
        Due.is("cat has not made it", x.give(2, 0, 0), 6);
        x.make(2, -1, 2, 0);
        x.make(2, -1, 2, 0);
        Due.is("the giver was later", x.give(2, 0, 1), 0);
        Due.is("the receiver's clock", x.person(0, 2), 4);
        x.make(0, -1, 0, 0);
        Due.is("the receiver was later", x.give(2, 0, 2), 0);
        Due.is("the giver's clock", x.person(2, 2), 6);
        Due.is("lifted for wood", x.lifted(0, true), true);
        Due.is("so it is lawful", x.give(2, 0, 0), 0);
        Due.is("door at home", Due.rule(x, "lawful when door;"), 0);
        x.go(2, 1);
        x.go(1, 1);
        Due.is("not at the door", x.give(2, 1, 0), 5);
        x.make(2, -1, 2, 0);
        Due.is("not at the door", x.give(2, 1, 4), 6);
        x.make(1, -1, 0, 0);
        Due.is("at the door", x.give(1, 2, 5), 0);
    }

    private static void thing() {
        OwnMade x = Due.told(LAND);
        x.make(1, -1, 2, 2);
        x.make(0, 2, 0, 1);
        Due.is("good", x.thing(0, 0), 2);
        Due.is("sort", x.thing(0, 1), 2);
        Due.is("makers", x.thing(0, 2), 2);
        Due.is("holder", x.thing(0, 3), 1);
        Due.is("hour", x.thing(0, 4), 1);
        Due.is("makers", x.thing(1, 2), 5);
        Due.is("sort", x.thing(1, 1), 1);
        Due.throwsNone("no such thing", () -> x.thing(2, 0));
        Due.throwsNone("no such thing", () -> x.thing(-1, 0));
        Due.throwsNone("no such thing", () -> x.thing(40, 0));
        Due.throwsNone("another what", () -> x.thing(0, 5));
        Due.throwsNone("another what", () -> x.thing(0, -1));
    }

    private static void lawful() {
        OwnMade x = Due.told(LAND);
        x.make(0, -1, 0, 0);
        x.make(2, 0, 2, 0);
        x.make(0, -1, 1, 0);
        Due.is("own, and not at the same place", x.lawful(0, 1, 2), 1);
        Due.is("made with another one", x.lawful(2, 1, 1), 0);
        Due.is("not held by the giver", x.lawful(0, 1, 1), -1);
        Due.is("used up", x.lawful(0, 1, 0), -1);
        Due.is("oneself", x.lawful(0, 0, 2), -1);
        Due.is("no such thing", x.lawful(0, 1, 3), -1);
        Due.is("no such thing", x.lawful(0, 1, -1), -1);
        Due.is("no such one", x.lawful(3, 0, 2), -1);
        Due.is("no such one", x.lawful(-1, 0, 2), -1);
        Due.is("no such one", x.lawful(0, 3, 2), -1);
        Due.is("no such one", x.lawful(0, -1, 2), -1);
        Due.rule(x, "lawful when door;");
        Due.is("at the door", x.lawful(0, 1, 2), 1);
        x.go(0, 1);
        Due.is("away from it", x.lawful(0, 1, 2), 0);
    }

    private static void mark() {
        OwnMade x = Due.told(LAND);
        Due.is("nothing on it", x.mark(0, true), false);
        Due.is("none such", x.mark(4, false), false);
        Due.is("none such", x.mark(-1, false), false);
        Due.is("none such", x.mark(4, true), false);
        Due.is("none such", x.mark(-1, true), false);
        x.make(0, -1, 0, 1);
        x.make(1, -1, 2, 0);
        x.lifted(3, true);
        Due.is("laid", x.mark(3, false), true);
        x.make(0, -1, 1, 0);
        x.go(1, 0);
        x.lifted(3, false);
        x.lifted(0, true);
        Due.rule(x, "lawful when free;");
        Due.is("another one laid", x.mark(1, false), true);
        Due.is("gone back to", x.mark(3, true), true);
        Due.is("two things", x.count(3), 2);
        Due.is("held again", x.thing(0, 3), 0);
        Due.is("clock", x.person(0, 2), 2);
        Due.is("place", x.person(1, 1), 1);
        Due.is("the rule is not held", x.count(5), 1);
        Due.is("lifted is", x.lawful(0, 1, 0), 0);
        Due.is("most, too", x.lawful(1, 0, 1), 0);
        Due.is("the other one", x.mark(1, true), true);
        Due.is("three things", x.count(3), 3);
        Due.is("place", x.person(1, 1), 0);
        Due.is("used up", x.thing(0, 3), -1);
        x.make(0, -1, 0, 0);
        Due.is("lifted", x.lawful(0, 1, 3), 1);
        Due.is("once more", x.mark(3, true), true);
        Due.is("two things again", x.count(3), 2);
        x.make(0, -1, 0, 0);
        Due.is("laid again", x.mark(3, false), true);
        Due.is("back", x.mark(1, true), true);
        Due.is("back", x.mark(3, true), true);
        Due.is("as it was laid last", x.count(3), 3);
        Due.is("others stay bare", x.mark(0, true), false);
        Due.is("a faulty land", Due.land(x, "place"), 1 + 16 * 5);
        Due.is("takes no mark away", x.mark(1, true), true);
        Due.is("a new land", Due.land(x, LAND), 0);
        Due.is("takes all away", x.mark(1, true), false);
        Due.is("takes all away", x.mark(3, true), false);
        rounds();
    }

    /** What a mark brings back is seen by the rounds, too. */
    private static void rounds() {
        OwnMade x = Due.told("place a;good g hours 1;good h hours 1;person p at a makes g wants h 4;person q at a makes h wants g 3;");
        x.mark(0, false);
        Due.is("no round", x.most(3, 0), 0);
        x.make(0, -1, 0, 0);
        x.make(1, -1, 1, 0);
        Due.is("a round", x.most(3, 0), 7);
        x.mark(0, true);
        Due.is("no round again", x.most(3, 0), 0);
    }

    private static void count() {
        OwnMade x = Due.told(LAND);
        Due.rule(x, "lawful when own;lawful when free;");
        x.make(1, -1, 0, 0);
        x.make(1, -1, 0, 0);
        x.make(2, -1, 2, 0);
        x.make(0, -1, 0, 0);
        x.make(0, -1, 1, 0);
        Due.feed(x, "five!");
        Due.is("places", x.count(0), 3);
        Due.is("goods", x.count(1), 4);
        Due.is("people", x.count(2), 3);
        Due.is("things", x.count(3), 5);
        Due.is("held", x.count(4), 4);
        Due.is("lines", x.count(5), 2);
        Due.is("signs", x.count(6), 5);
        Due.is("happy: 10, 6 and 5, 2", x.count(7), 23);
        Due.is("other what", x.count(8), -1);
        Due.is("other what", x.count(-1), -1);
    }
}
