/** The boundaries of Terms, part 2, and of promises 9 to 13, sentence by sentence: makings, goings and gifts. */
final class WeekBoundsTest {
    // f takes 24 hours, g one, h is made of g and i
    private static final String LAND = "place a;place b;place c;way a b 24;"
            + "good f hours 24;good g hours 1;good i hours 1;good h hours 1 from g i;"
            + "person p at a makes f g wants g 5 4 3 wants f 2;person q at b makes i h;person r at a makes i h wants g 9;";

    public static void main(String[] args) {
        atFirst();
        fullOfThings();
        makers();
        clocks();
        goesInto();
        goings();
        gifts();
        noClockBeyond();
        whyNotMake();
        whyNotGo();
        whyNotGive();
        whyNotOrder();
        worthOfSome();
        Doc.whole("Terms 2");
        make();
        go();
        give();
        thing();
        lawful();
        Doc.wholePromises(9, 13);
        Due.end("WeekBoundsTest");
    }

    private static void makeMany(OwnMade x, int person, int good, int many) {
        for (int i = 0; i < many; i++) {
            Due.is("made", x.make(person, -1, good, 0), 0);
        }
    }

    private static void atFirst() {
        Doc.says("Terms 2", "At first each of the PEOPLE is at HOME, their CLOCK at HOUR 0;");
        OwnMade x = Due.told(LAND);
        for (int i = 0; i < 3; i++) {
            Due.is("at home", x.person(i, 1), x.person(i, 0));
            Due.is("clock", x.person(i, 2), 0);
        }
        Due.is("q's home is b", x.person(1, 1), 1);
        Due.is("gone", x.go(1, 0) * 100 + x.person(1, 1) * 50 + x.person(1, 2), 24);
    }

    private static void fullOfThings() {
        Doc.says("Terms 2", "there are no THINGS (40 at most, numbered as made; a GOOD, a sort, makers, a holder, or used up).");
        OwnMade x = Due.told(LAND);
        Due.is("none", x.count(3) + x.count(4) + x.person(0, 4), 0);
        Due.throwsNone("no thing 0", () -> x.thing(0, 0));
        makeMany(x, 0, 1, 38);
        makeMany(x, 2, 2, 1);
        Due.is("39", x.count(3), 39);
        Due.throwsNone("no thing 39", () -> x.thing(39, 0));
        Due.is("the 40th", x.make(0, 2, 1, 3), 0);
        Due.is("40", x.count(3), 40);
        Due.is("numbered as made", x.thing(37, 0) * 100 + x.thing(38, 0) * 10 + x.thing(39, 0), 121);
        Due.is("good, sort, makers, holder", x.thing(39, 1) * 100 + x.thing(39, 2) * 10 + x.thing(39, 3), 350);
        Due.is("not the 41st", x.make(0, -1, 1, 0), 7);
        Due.is("40 still", x.count(3), 40);
        Due.throwsNone("no thing 40", () -> x.thing(40, 0));
        OwnMade y = Due.told(LAND);
        makeMany(y, 0, 1, 37);
        makeMany(y, 2, 2, 2);
        Due.is("a g for r", y.give(0, 2, 0), 0);
        Due.is("an h of two", y.make(2, -1, 3, 0), 0);
        Due.is("two used up", y.thing(0, 3) + y.thing(37, 3), -2);
        Due.is("those used up are of the 40", y.count(3) * 100 + y.count(4), 4038);
        Due.is("so there is no room", y.make(0, -1, 1, 0), 7);
    }

    private static void makers() {
        Doc.says("Terms 2", "MAKE: one of the PEOPLE, alone or with another one who is at the same PLACE, a GOOD that one of them makes;");
        OwnMade x = Due.told(LAND);
        Due.is("alone", x.make(0, -1, 1, 0), 0);
        Due.is("alone, what another makes", x.make(0, -1, 2, 0), 3);
        Due.is("with one who makes it", x.make(0, 2, 2, 0), 0);
        Due.is("with one who does not", x.make(2, 0, 1, 0), 0);
        Due.is("the makers", x.thing(0, 2) * 100 + x.thing(1, 2) * 10 + x.thing(2, 2), 155);
        Due.is("at another place", x.make(0, 1, 1, 0), 4);
        Due.is("both are there", x.go(0, 1) + x.make(0, 1, 1, 0), 0);
        Due.is("now r is not", x.make(0, 2, 1, 0), 4);
        OwnMade none = Due.told("place a;good g hours 1;person p at a makes;person q at a makes;");
        Due.is("nobody makes it", none.make(0, 1, 0, 0), 3);
    }

    private static void clocks() {
        Doc.says("Terms 2", "both begin at the later of their CLOCKS; it takes its HOURS.");
        OwnMade x = Due.told(LAND);
        Due.is("both at 0", x.make(0, 2, 1, 0) * 100 + x.person(0, 2) * 10 + x.person(2, 2), 11);
        Due.is("the first one is later", x.make(0, -1, 1, 0) + x.make(0, 2, 1, 0), 0);
        Due.is("2 and 1", x.person(0, 2) * 10 + x.person(2, 2), 33);
        Due.is("the other one is later", x.make(2, -1, 2, 0) + x.make(0, 2, 0, 0), 0);
        Due.is("4 and 24", x.person(0, 2) * 100 + x.person(2, 2), 2828);
        Due.is("when it was done", x.thing(4, 4), 28);
        Due.is("alone: one's own clock", x.make(2, -1, 2, 0) * 10000 + x.person(0, 2) * 100 + x.person(2, 2), 2829);
    }

    private static void goesInto() {
        Doc.says("Terms 2", "What goes into it: of what the first one holds the THING of the least number of each. The first one holds it then.");
        OwnMade x = Due.told(LAND);
        // 0 i, 1 g, 2 i, 3 g, 4 g of p
        makeMany(x, 2, 2, 1);
        makeMany(x, 0, 1, 1);
        makeMany(x, 2, 2, 1);
        makeMany(x, 0, 1, 2);
        Due.is("r holds no g", x.make(2, -1, 3, 0), 3);
        Due.is("with p, who holds one", x.make(2, 0, 3, 0), 3);
        Due.is("p holds no i", x.make(0, 2, 3, 0), 3);
        Due.is("the later ones are given", x.give(0, 2, 4) + x.give(0, 2, 3), 0);
        Due.is("now", x.make(2, 0, 3, 0), 0);
        Due.is("of each the least number that r holds", x.thing(0, 3) * 10 + x.thing(3, 3), -11);
        Due.is("others stay", x.thing(1, 3) * 100 + x.thing(2, 3) * 10 + x.thing(4, 3), 22);
        Due.is("the first one holds it", x.thing(5, 3), 2);
        Due.is("an i is given to p", x.give(2, 0, 2), 0);
        Due.is("p first", x.make(0, 2, 3, 0) * 10 + x.thing(6, 3), 0);
        Due.is("what r holds is not used", x.thing(4, 3), 2);
        Due.is("all that is used up is not held by p", x.thing(1, 3) + x.thing(2, 3), -2);
        OwnMade y = Due.told("place a;good f hours 1;good g hours 1 from f;good h hours 1;good i hours 1;good j hours 1;"
                + "good k hours 1 from f j;person p at a makes f g j k;");
        Due.is("the first GOOD is missing", y.make(0, -1, 1, 0) * 10 + y.make(0, -1, 5, 0), 33);
        Due.is("the first GOOD is there", y.make(0, -1, 0, 0) + y.make(0, -1, 1, 0), 0);
        Due.is("it is used up", y.thing(0, 3), -1);
        Due.is("the last but one is missing", y.make(0, -1, 0, 0) * 10 + y.make(0, -1, 5, 0), 3);
        Due.is("both are there", y.make(0, -1, 4, 0) + y.make(0, -1, 5, 0), 0);
        Due.is("both are used up", y.thing(2, 3) + y.thing(3, 3), -2);
    }

    private static void goings() {
        Doc.says("Terms 2", "GO: to a PLACE by the shortest way.");
        OwnMade x = Due.told("place a;place b;place c;place d;way a b 3;way b c 3;way a c 7;person p at a makes;");
        Due.is("6, not 7", x.go(0, 2) * 100 + x.person(0, 2), 6);
        Due.is("there", x.person(0, 1), 2);
        Due.is("3 more", x.go(0, 1) * 100 + x.person(0, 2), 9);
        Due.is("where one is, in no time", x.go(0, 1) * 100 + x.person(0, 2), 9);
        Due.is("no way", x.go(0, 3), 2);
        Due.is("still at b, at 9", x.person(0, 1) * 100 + x.person(0, 2), 109);
    }

    private static void gifts() {
        Doc.says("Terms 2", "GIVE: a THING to another one at the same PLACE, in the HOUR that is the later of both CLOCKS (both CLOCKS are that then).");
        OwnMade x = Due.told(LAND);
        makeMany(x, 0, 1, 2);
        Due.is("the giver is later", x.give(0, 2, 0) * 100 + x.person(0, 2) * 10 + x.person(2, 2), 22);
        makeMany(x, 2, 2, 1);
        Due.is("the receiver is later", x.give(0, 2, 1) * 100 + x.person(0, 2) * 10 + x.person(2, 2), 33);
        Due.is("both at once", x.give(2, 0, 2) * 100 + x.person(0, 2) * 10 + x.person(2, 2), 33);
        Due.is("to oneself", x.give(0, 0, 2), 1);
        makeMany(x, 0, 1, 1);
        Due.is("not there", x.give(0, 1, 3), 4);
        Due.is("there", x.go(0, 1) + x.give(0, 1, 3), 0);
        Due.is("28", x.person(1, 2), 28);
    }

    private static void noClockBeyond() {
        Doc.says("Terms 2", "No CLOCK goes beyond 168.");
        OwnMade x = Due.told(LAND);
        makeMany(x, 0, 0, 6);
        Due.is("144", x.person(0, 2), 144);
        Due.is("to b", x.go(0, 1) * 1000 + x.person(0, 2), 168);
        Due.is("not back", x.go(0, 0), 2);
        Due.is("nothing is made any more", x.make(0, -1, 1, 0), 2);
        Due.is("nor with another one", x.make(1, 0, 1, 0), 2);
        Due.is("but one may give", x.give(0, 1, 0), 0);
        Due.is("both at 168", x.person(0, 2) + x.person(1, 2), 336);
        Due.is("and go where one is", x.go(0, 1), 0);
        OwnMade y = Due.told(LAND);
        makeMany(y, 0, 0, 5);
        makeMany(y, 0, 1, 24);
        Due.is("144 again", y.person(0, 2), 144);
        Due.is("168", y.make(0, -1, 0, 0) * 1000 + y.person(0, 2), 168);
        OwnMade z = Due.told(LAND);
        makeMany(z, 0, 0, 6);
        makeMany(z, 0, 1, 1);
        Due.is("145 and 24", z.make(0, -1, 0, 0), 2);
        Due.is("by the way, too", z.go(0, 1), 2);
        Due.is("145 still, at a", z.person(0, 2) * 10 + z.person(0, 1), 1450);
        makeMany(z, 0, 1, 22);
        Due.is("the other one's clock", z.make(2, 0, 1, 0) * 1000 + z.person(2, 2), 168);
        Due.is("is beyond next", z.make(2, -1, 2, 0), 2);
    }

    private static void whyNotMake() {
        Doc.says("Terms 2", "Each tells WHY not, the first that holds: 1 no such ones;");
        OwnMade x = Due.told(LAND);
        for (int other : Due.others(2)) {
            Due.is("maker " + other, x.make(other, -1, 1, 0), 1);
            Due.is("going " + other, x.go(other, 0), 1);
            Due.is("to " + other, x.go(0, other), 1);
        }
        makeMany(x, 0, 1, 1);
        Due.is("all there", x.give(0, 2, 0), 0);
        Due.is("no such thing", x.give(0, 2, 1), 1);
        Due.is("maker and other alike", x.make(0, 0, 1, 0), 1);
        Due.is("giver and receiver alike", x.give(2, 2, 0), 1);
    }

    private static void whyNotGo() {
        Doc.says("Terms 2", "2 the HOURS don't suffice (GO: there is no way, too);");
        OwnMade x = Due.told(LAND);
        Due.is("no way", x.go(0, 2), 2);
        Due.is("a way", x.go(0, 1), 0);
        makeMany(x, 0, 0, 6);
        Due.is("168", x.person(0, 2), 168);
        Due.is("not for g", x.make(0, -1, 1, 0), 2);
        Due.is("not for a way of 24", x.go(0, 0), 2);
        Due.is("no way, whatever the clock", x.go(0, 2), 2);
        OwnMade y = Due.told(LAND.replace("b 24", "b 23"));
        makeMany(y, 0, 0, 6);
        Due.is("167", y.go(0, 1) * 1000 + y.person(0, 2), 167);
        Due.is("not for f", y.make(0, -1, 0, 0), 2);
        Due.is("for g", y.make(0, -1, 1, 0), 0);
    }

    private static void whyNotGive() {
        Doc.says("Terms 2", "3 the GOOD is not made by either, or something that goes into it is not held; "
                + "4 not at the same PLACE; 5 the THING is not held; 6 it is not LAWFUL;");
        OwnMade x = Due.told(LAND);
        Due.is("3: nothing of what goes into it", x.make(2, -1, 3, 0), 3);
        makeMany(x, 2, 2, 1);
        Due.is("3: one of two", x.make(2, -1, 3, 0), 3);
        makeMany(x, 0, 1, 1);
        Due.is("3: another holds it", x.make(2, 0, 3, 0), 3);
        Due.is("given", x.give(0, 2, 1), 0);
        Due.is("none: both are held", x.make(2, 0, 3, 0), 0);
        Due.is("5: used up", x.give(2, 0, 1), 5);
        Due.is("5: another holds it", x.give(0, 2, 2), 5);
        Due.is("6: made with another one", x.give(2, 0, 2), 6);
        Due.is("4: elsewhere", x.give(2, 1, 2), 4);
        Due.is("lifted", x.lifted(3, true), true);
        Due.is("none: lawful", x.give(2, 0, 2), 0);
    }

    private static void whyNotOrder() {
        Doc.says("Terms 2", "7 40 THINGS are there; else 0, and it is done.");
        OwnMade x = Due.told(LAND.replace("b 24", "b 16") + "person s at b makes g;");
        makeMany(x, 0, 1, 40);
        for (int i = 0; i < 8; i++) {
            Due.is("to and fro", x.go(0, 1 - i % 2), 0);
        }
        Due.is("168", x.person(0, 2), 168);
        Due.is("1 before all others", x.make(0, 1, 4, 0), 1);
        Due.is("2 before 3, 4, 7", x.make(0, 1, 3, 0), 2);
        Due.is("2 before 3, 4, 7, the other's clock", x.make(3, 0, 3, 0), 2);
        Due.is("3 before 4, 7", x.make(2, 3, 3, 0), 3);
        Due.is("4 before 7", x.make(2, 3, 1, 0), 4);
        Due.is("7", x.make(3, -1, 1, 0), 7);
        Due.is("7 with another one", x.make(3, 1, 1, 0), 7);
        Due.is("nothing was done", x.count(3) * 1000 + x.person(3, 2) + x.person(1, 2), 40000);
        Due.is("gift: 1 before all others", x.give(1, 2, 40), 1);
        Due.is("gift: 4 before 5, 6", x.give(1, 2, 0), 4);
        Due.is("gift: 5 before 6", x.give(2, 0, 0), 5);
        Due.rule(x, "lawful when 0;");
        Due.is("gift: 6", x.give(0, 2, 0), 6);
        Due.is("gift: 4 before 6", x.give(0, 3, 0), 4);
        Due.rule(x, "");
        Due.is("gift: 0", x.give(0, 2, 0), 0);
        OwnMade y = Due.told(LAND);
        makeMany(y, 0, 1, 39);
        Due.is("39: 0", y.make(2, -1, 2, 0), 0);
        Due.is("40: 7", y.make(2, -1, 2, 0), 7);
    }

    private static void worthOfSome() {
        Doc.says("Terms 2", "WORTH of some THINGS of a GOOD to one: of so many the first worths told (0 beyond, or if not wanted).");
        OwnMade x = Due.told(LAND);
        int[] happy = {0, 5, 9, 12, 12, 12};
        for (int many = 0; many <= 5; many++) {
            Due.is(many + " of g", x.person(0, 3), happy[many]);
            makeMany(x, 0, 1, 1);
        }
        makeMany(x, 0, 0, 1);
        Due.is("the first f", x.person(0, 3), 14);
        makeMany(x, 0, 0, 1);
        Due.is("the second one is told no worth", x.person(0, 3), 14);
        makeMany(x, 2, 2, 2);
        Due.is("not wanted", x.person(2, 3), 0);

        Doc.says("Terms 2", "HAPPY is one by the WORTH of all that one holds, GOOD by GOOD.");
        Due.is("all of p", x.person(0, 3), 14);
        Due.is("a g given", x.give(0, 2, 0) * 100 + x.person(2, 3), 9);
        Due.is("a second g", x.give(0, 2, 1) * 100 + x.person(2, 3), 9);
        Due.is("of six p has four", x.person(0, 3), 14);
        Due.is("of six p has two", x.give(0, 2, 2) + x.give(0, 2, 3) + x.person(0, 3), 11);
        Due.is("what is used up is not held", x.make(2, -1, 3, 0) * 100 + x.person(2, 3), 9);
        Due.is("all", x.count(7), 20);
        OwnMade full = Due.told("place a;good g hours 1;person p at a makes g wants g 999 999 999;");
        makeMany(full, 0, 0, 40);
        Due.is("40 of them", full.person(0, 3), 2997);
    }

    // ---- promises 9 to 13 ----

    private static void make() {
        Doc.says("Promise 9", "MAKE (other NONE: alone), sort 0 to 3: WHY not, or 0.");
        OwnMade x = Due.told(LAND);
        for (int sort = 0; sort <= 3; sort++) {
            Due.is("sort " + sort, x.make(0, -1, 1, sort) * 10 + x.thing(sort, 1), sort);
        }
        for (int other : Due.others(3)) {
            Due.is("sort " + other, x.make(0, -1, 1, other), 1);
            Due.is("good " + other, x.make(0, -1, other, 0), 1);
        }
        for (int other : Due.others(2)) {
            Due.is("maker " + other, x.make(other, -1, 1, 0), 1);
            Due.is("other " + other, x.make(0, other, 1, 0), other == -1 ? 0 : 1);
        }
        Due.is("alone", x.thing(4, 2), 1);
        Due.is("with the last one", x.make(0, 2, 1, 0) * 10 + x.thing(5, 2), 5);
        Due.is("with oneself", x.make(0, 0, 1, 0), 1);
        Due.is("six were made", x.count(3), 6);
    }

    private static void go() {
        Doc.says("Promise 10", "GO: WHY not, or 0.");
        OwnMade x = Due.told(LAND);
        for (int other : Due.others(2)) {
            Due.is("one " + other, x.go(other, 0), 1);
            Due.is("place " + other, x.go(0, other), 1);
        }
        Due.is("0", x.go(2, 1), 0);
        Due.is("2", x.go(2, 2), 2);
        Due.is("there is nobody", new OwnMade().go(0, 0), 1);
        OwnMade c = Due.told("place a;place b;person p at b makes;");
        Due.is("only where one is", c.go(0, 1) * 10 + c.go(0, 0), 2);
    }

    private static void give() {
        Doc.says("Promise 11", "GIVE: WHY not, or 0.");
        OwnMade x = Due.told(LAND);
        makeMany(x, 0, 1, 2);
        for (int other : Due.others(2)) {
            Due.is("giver " + other, x.give(other, 2, 0), 1);
            Due.is("receiver " + other, x.give(0, other, 0), 1);
        }
        for (int other : Due.others(1)) {
            Due.is("thing " + other, x.give(0, 2, other), 1);
        }
        Due.is("the last thing", x.give(0, 2, 1), 0);
        Due.is("not twice", x.give(0, 2, 1), 5);
        Due.is("the first one", x.give(0, 2, 0), 0);
        Due.is("r did not make it", x.give(2, 0, 0), 6);
    }

    private static void thing() {
        Doc.says("Promise 12", "Of a THING, what 0: its GOOD, 1: sort, 2: makers as bits, 3: its holder (NONE: used up), "
                + "4: the HOUR at which it was done (begin and HOURS).");
        OwnMade x = Due.told(LAND);
        makeMany(x, 0, 1, 1);
        Due.is("with r", x.make(2, 0, 2, 3), 0);
        Due.is("g to r", x.give(0, 2, 0), 0);
        Due.is("held by the last one", x.thing(0, 3), 2);
        Due.is("h of both", x.make(2, -1, 3, 0), 0);
        Due.is("used up", x.thing(0, 3), OwnMade.NONE);
        Due.is("used up", x.thing(1, 3), OwnMade.NONE);
        Due.is("it is still known: good, sort, makers, hour", x.thing(1, 0) * 1000 + x.thing(1, 1) * 100 + x.thing(1, 2) * 10 + x.thing(1, 4), 2352);
        Due.is("the last: good, makers, holder, hour", x.thing(2, 0) * 1000 + x.thing(2, 2) * 100 + x.thing(2, 3) * 10 + x.thing(2, 4), 3423);
        Due.is("held by the first", x.make(0, -1, 0, 0) * 10 + x.thing(3, 3), 0);
        Due.is("begun at 2", x.thing(3, 4), 26);
        Doc.says("Promise 12", "NoSuchElementException: none such, another what.");
        for (int other : Due.others(3)) {
            Due.throwsNone("thing " + other, () -> x.thing(other, 0));
        }
        for (int other : Due.others(4)) {
            Due.throwsNone("what " + other, () -> x.thing(0, other));
        }
        Due.throwsNone("neither", () -> x.thing(4, 5));
        Due.throwsNone("no thing at all", () -> new OwnMade().thing(0, 0));
    }

    private static void lawful() {
        Doc.says("Promise 13", "Whether a THING could be given LAWFULLY to another one as all are now: 1 or 0;");
        OwnMade x = Due.told(LAND);
        makeMany(x, 0, 1, 1);
        Due.is("made with r", x.make(0, 2, 1, 0), 0);
        Due.is("own", x.lawful(0, 2, 0), 1);
        Due.is("not own", x.lawful(0, 2, 1), 0);
        Due.is("to one elsewhere", x.lawful(0, 1, 0), 1);
        Due.rule(x, "lawful when door;");
        Due.is("at home", x.lawful(0, 1, 0), 1);
        Due.is("as all are now", x.go(0, 1) * 10 + x.lawful(0, 1, 0), 0);
        Due.is("nothing is given", x.thing(0, 3), 0);
        Doc.says("Promise 13", "NONE: no such ones, not held by the giver.");
        for (int other : Due.others(2)) {
            Due.is("giver " + other, x.lawful(other, 1, 0), -1);
            Due.is("receiver " + other, x.lawful(0, other, 0), -1);
        }
        for (int other : Due.others(1)) {
            Due.is("thing " + other, x.lawful(0, 1, other), -1);
        }
        Due.is("oneself", x.lawful(0, 0, 0), -1);
        Due.is("another holds it", x.lawful(2, 1, 0), -1);
        Due.rule(x, "");
        Due.is("given", x.give(0, 1, 0), 0);
        Due.is("not held any more", x.lawful(0, 1, 0), -1);
        Due.is("q did not make it", x.lawful(1, 0, 0), 0);
        makeMany(x, 1, 2, 1);
        Due.is("used up", x.make(1, -1, 3, 0) * 10 + x.lawful(1, 0, 0), -1);
    }
}
