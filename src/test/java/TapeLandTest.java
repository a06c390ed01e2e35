/** Promises 1 to 8: a new object, feed, land, rule, way, good, worth, person. */
final class TapeLandTest {
    private static final String LAND = "place hill;place ford;place isle;way hill ford 3;"
            + "good flour hours 2;good knife hours 5;good bread hours 1 from flour knife;"
            + "person ann at hill makes knife flour wants bread 20 5 wants knife 7;"
            + "person bob at ford makes flour wants flour 9 9 0;"
            + "person cat at isle makes;";

    public static void main(String[] args) {
        newObject();
        feed();
        blanksAndTokens();
        landFaults();
        landStays();
        landBegins();
        bounds();
        ruleFaults();
        ruleStays();
        facts();
        values();
        way();
        good();
        worth();
        person();
        Due.end("TapeLandTest");
    }

    // ---- promise 1 ----

    private static void newObject() {
        OwnMade x = new OwnMade();
        for (int what = 0; what < 8; what++) {
            Due.is("new: count " + what, x.count(what), 0);
        }
        Due.is("new: way", x.way(0, 0), OwnMade.NONE);
        Due.is("new: good", x.good(0, 0), -1);
        Due.is("new: worth", x.worth(0, 0, 0), -1);
        Due.is("new: person", x.person(0, 0), -1);
        Due.is("new: at", x.at(0), -1);
        Due.is("new: coin of a good", x.coin(0), -1);
        Due.is("new: lifted", x.lifted(0, true), false);
        Due.is("new: lift", x.lift(0), -1);
        Due.is("new: far", x.far(0, 0, 1, 0), -1);
        Due.is("new: fewest", x.fewest(0, 0), -1);
        Due.is("new: beside", x.beside(2, 0, 1), -1);
        Due.is("new: mark laid", x.mark(0, false), true);
        Due.is("new: mark gone back to", x.mark(0, true), true);
        Due.throwsNone("new: thing", () -> x.thing(0, 0));
        Due.throwsNone("new: fair", () -> x.fair(0, 0, 0, 0));
        Due.throwsNone("new: lie", () -> x.lie(0, 1, 0, 5, 5, 0));
    }

    // ---- promise 2 ----

    private static void feed() {
        OwnMade x = new OwnMade();
        Due.is("nothing but zeros", x.feed(0, 0, 0), 0);
        Due.is("10 and 32 .. 126 stay", x.feed(0x0a207e0000000000L, 0, 0), 3);
        Due.is("others are left out", x.feed(0x00090b0d1f7f80ffL, 0xffffffffffffffffL, 0x8080808080808080L), 3);
        Due.is("behind what is there", x.feed(0x4100000000000042L, 0x43L, 0x4400000000000000L), 7);
        Due.is("count of signs", x.count(6), 7);
        OwnMade y = new OwnMade();
        y.feed(Due.eight("place a;", 0), Due.eight("place b;", 0), Due.eight("way a b ", 0));
        Due.is("the highest first, a, b, c", y.feed(0x3500000000000000L, 0x3b00000000000000L, 0), 26);
        Due.is("a land so told", y.land(), 0);
        Due.is("its way", y.way(0, 1), 5);
        OwnMade z = new OwnMade();
        for (int i = 1; i <= 41; i++) {
            Due.is("blanks", z.feed(0x2020202020202020L, 0x2020202020202020L, 0x2020202020202020L), 24 * i);
        }
        Due.is("beyond 1,000", z.feed(Due.eight("        ", 0), Due.eight("place a;", 0), Due.eight("place b;", 0)), 1000);
        Due.is("beyond 1,000 still", z.feed(Due.eight("nonsense", 0), 0, 0), 1000);
        Due.is("the first 1,000", z.land(), 0);
        Due.is("one place within them", z.count(0), 1);
        Due.is("what reads it takes it", z.count(6), 0);
        Due.is("and there is room again", z.feed(Due.eight("place c;", 0), 0, 0), 8);
        Due.is("it is read as fed", z.land(), 0);
        OwnMade w = new OwnMade();
        Due.land(w, "place abcdefgh;place a;way a abcdefgh 24 4444;");
        Due.is("what was on the tape before is gone", Due.land(w, "place a;place abcdefgh;way a abcdefgh 2"), 1 + 16 * 39);
        StringBuilder text = new StringBuilder("place a;place b;way a b ");
        while (text.length() < 999) {
            text.append(' ');
        }
        Due.is("a number as the last of 1,000", Due.land(w, text + "7;"), 1 + 16 * 1000);
        Due.is("a word as the last of 1,000", Due.land(w, text + "a;"), 1 + 16 * 999);
        text.setLength(998);
        Due.is("all of 1,000", Due.land(w, text + "7;"), 0);
    }

    // ---- promise 3 ----

    private static void blanksAndTokens() {
        Due.is("blanks anywhere", Due.land(new OwnMade(), "\n place\na\n;  place b;way a b 24\n;\n"), 0);
        Due.is("no blanks", Due.land(new OwnMade(), "place a;good g hours 1;good h hours 1from g;person p at a makes g wants h 5 4 3wants g 1;"), 0);
        Due.is("a number behind a word", Due.land(new OwnMade(), "place a;place b;way a b7;good g hours24;"), 0);
        Due.is("words of the rule are names", Due.land(new OwnMade(), "place lawful;place when;way lawful when 1;"
                + "good own hours 1;good not hours 1 from own;person and at when makes own not wants own 1;"
                + "person or at when makes;person free at lawful makes wants not 2;"), 0);
        Due.is("eight letters", Due.land(new OwnMade(), "place abcdefgh;place abcdefgi;place abcdefg;"), 0);
        Due.is("names that are alike but for their length", Due.land(new OwnMade(), "place a;place aa;place b;place bb;place z;"), 0);
        Due.is("leading zeros", Due.land(new OwnMade(), "place a;place b;way a b 0024;"), 0);
        Due.is("an empty land", new OwnMade().land(), 0);
        Due.landFault("place abcdefghi;", 1, 6);
        Due.landFault("place a;place b;way a b 00024;", 1, 24);
        Due.landFault("place A;", 1, 6);
        Due.landFault("place aB;", 1, 7);
        Due.landFault("place a:", 1, 7);
        Due.landFault("place a  ", 1, 9);
        Due.landFault("place", 1, 5);
    }

    private static void landFaults() {
        Due.landFault("a", 1, 0);
        Due.landFault(";", 1, 0);
        Due.landFault("7", 1, 0);
        Due.landFault("lawful when own;", 1, 0);
        for (String no : new String[] {"place", "way", "good", "hours", "from", "person", "at", "makes", "wants"}) {
            Due.landFault("place " + no + ";", 1, 6);
            Due.landFault("good " + no + " hours 1;", 1, 5);
            Due.landFault("place a;way " + no + " a 1;", 1, 12);
        }
        Due.landFault("place a;place a;", 3, 14);
        Due.landFault("place a;good a hours 1;", 3, 13);
        Due.landFault("place a;person a at a makes;", 3, 15);
        Due.landFault("good g hours 1;place g;", 3, 21);
        Due.landFault("place a;person p at a makes;place p;", 3, 34);
        Due.landFault("place a b;", 1, 8);
        Due.landFault("place a;way a a 3;", 3, 14);
        Due.landFault("place a;way a b 3;", 2, 14);
        Due.landFault("place a;way b b 3;", 2, 12);
        Due.landFault("place a;good g hours 1;way a g 3;", 2, 29);
        Due.landFault("place a;place b;way a b;", 1, 23);
        Due.landFault("place a;place b;way a b 0;", 4, 24);
        Due.landFault("place a;place b;way a b 25;", 4, 24);
        Due.landFault("place a;place b;way a b 9999;", 4, 24);
        Due.landFault("place a;place b;way a b 3", 1, 25);
        Due.landFault("place a;place b;way a b 3 4;", 1, 26);
        Due.landFault("place a;place b;way a 3;", 1, 22);
        Due.landFault("good g hours 0;", 4, 13);
        Due.landFault("good g hours 25;", 4, 13);
        Due.landFault("good g hours;", 1, 12);
        Due.landFault("good g 5;", 1, 7);
        Due.landFault("good g hours 1 from;", 1, 19);
        Due.landFault("good g hours 1 from g;", 2, 20);
        Due.landFault("good g hours 1;good h hours 1 from g g;", 3, 37);
        Due.landFault("good g hours 1;good h hours 1 from g 2;", 1, 37);
        Due.landFault("place a;good h hours 1 from a;", 2, 28);
        Due.landFault("good g hours 1;good h hours 1 from g from g;", 1, 37);
        Due.landFault("person p at q makes;", 2, 12);
        Due.landFault("person p q makes;", 1, 9);
        Due.landFault("place a;person p at a;", 1, 21);
        Due.landFault("place a;person p at a makes g;", 2, 28);
        Due.landFault("place a;person p at a makes a;", 2, 28);
        Due.landFault("place a;good g hours 1;person p at a makes g g;", 3, 45);
        Due.landFault("place a;good g hours 1;person p at g makes;", 2, 35);
        Due.landFault("place a;good g hours 1;person p at a makes wants g;", 1, 50);
        Due.landFault("place a;good g hours 1;person p at a makes wants;", 1, 48);
        Due.landFault("place a;good g hours 1;person p at a makes wants h 5;", 2, 49);
        Due.landFault("place a;good g hours 1;person p at a makes wants g 1000;", 4, 51);
        Due.landFault("place a;good g hours 1;person p at a makes wants g 5 6;", 4, 53);
        Due.landFault("place a;good g hours 1;person p at a makes wants g 5 4 5;", 4, 55);
        Due.landFault("place a;good g hours 1;person p at a makes wants g 5 4 3 2;", 1, 57);
        Due.landFault("place a;good g hours 1;person p at a makes wants g 5 wants g 4;", 3, 59);
        Due.landFault("place a;good g hours 1;person p at a makes wants g 5 makes g;", 1, 53);
        Due.landFault("place a;good g hours 1;person p at a makes wants g 5 g;", 1, 53);
        Due.landFault("place a;?place a;", 1, 8);
        Due.is("999, 999, 999", Due.land(new OwnMade(), "place a;good g hours 24;person p at a makes wants g 999 999 999;"), 0);
        Due.is("worths 0", Due.land(new OwnMade(), "place a;good g hours 24;person p at a makes wants g 0 0 0;"), 0);
    }

    private static void landStays() {
        OwnMade x = Due.told(LAND);
        Due.is("knife made", x.make(0, -1, 1, 0), 0);
        x.lifted(1, true);
        x.mark(2, false);
        Due.is("a fault", Due.land(x, "place a;place b;good g hours 1;person p at a makes g"), 1 + 16 * 52);
        Due.is("tape is empty behind a fault", x.count(6), 0);
        Due.is("places stay", x.count(0), 3);
        Due.is("goods stay", x.count(1), 3);
        Due.is("people stay", x.count(2), 3);
        Due.is("ways stay", x.way(0, 1), 3);
        Due.is("things stay", x.count(3), 1);
        Due.is("clocks stay", x.person(0, 2), 5);
        Due.is("marks stay", x.mark(2, true), true);
        Due.is("worths stay", x.worth(0, 2, 1), 5);
        Due.is("another fault", Due.land(x, "way hill ford 4;"), 2 + 16 * 4);
        Due.is("names of the old land are not told in a new text", x.way(0, 1), 3);
    }

    private static void landBegins() {
        OwnMade x = Due.told(LAND);
        Due.is("a rule", Due.rule(x, "lawful when free;"), 0);
        x.make(0, -1, 0, 0);
        x.go(0, 1);
        x.lifted(0, true);
        x.mark(1, false);
        Due.is("told again", Due.land(x, LAND), 0);
        Due.is("no things", x.count(3), 0);
        Due.is("clock", x.person(0, 2), 0);
        Due.is("at home", x.person(0, 1), 0);
        Due.is("no marks", x.mark(1, true), false);
        Due.is("the rule stays", x.count(5), 1);
        x.make(0, -1, 0, 0);
        Due.is("nothing is lifted", x.lawful(0, 1, 0), 0);
        Due.is("an empty land", x.land(), 0);
        Due.is("nobody", x.count(2), 0);
        Due.is("no places", x.count(0), 0);
        Due.is("the rule stays still", x.count(5), 1);
        OwnMade y = Due.told("place a;good g hours 1;good h hours 1;person p at a makes g wants h 9 8 7 wants g 5;");
        Due.is("fewer wants", Due.land(y, "place a;good g hours 1;good h hours 1;person p at a makes g;"), 0);
        Due.is("no worth is left over", y.worth(0, 1, 0) + y.worth(0, 0, 0), 0);
    }

    private static void bounds() {
        String places = "place a;place b;place c;place d;place e;";
        OwnMade x = Due.told(places);
        Due.is("5 places", x.count(0), 5);
        Due.landFault(places + "place f;", 5, 40);
        Due.landFault(places + "place", 5, 40);
        Due.landFault(places + "place a;", 5, 40);
        StringBuilder goods = new StringBuilder("place a;");
        for (int i = 0; i < 6; i++) {
            goods.append("good g").append((char) ('a' + i)).append(" hours 1;");
        }
        Due.is("6 goods", Due.told(goods.toString()).count(1), 6);
        Due.landFault(goods + "good x hours 1;", 5, goods.length());
        Due.landFault(goods + " good;", 5, goods.length() + 1);
        StringBuilder people = new StringBuilder(goods);
        for (int i = 0; i < 8; i++) {
            people.append("person p").append((char) ('a' + i)).append(" at a makes;");
        }
        Due.is("8 people", Due.told(people.toString()).count(2), 8);
        Due.landFault(people + "person x at a makes;", 5, people.length());
        Due.landFault("place a place a;", 1, 8);
        String all = " ga gb gc gd ge gf";
        Due.is("all goods are made", Due.land(new OwnMade(), goods + "person p at a makes" + all + ";"), 0);
        Due.landFault(goods + "person p at a makes" + all + " ga;", 3, goods.length() + 38);
        Due.landFault(goods + "person p at a makes" + all + " gf;", 3, goods.length() + 38);
        Due.landFault(goods + "person p at a makes" + all + " gx;", 2, goods.length() + 38);
        String wants = all.replace(" g", " 1 wants g").substring(2) + " 1";
        Due.is("all goods are wanted", Due.land(new OwnMade(), goods + "person p at a makes" + wants + ";"), 0);
        String again = goods + "person p at a makes" + wants + " wants ";
        Due.landFault(again + "gc 1;", 3, again.length());
        Due.landFault(again + "gx 1;", 2, again.length());
        Due.landFault(again + "pa 1;", 2, again.length());
    }

    // ---- promise 4 ----

    private static void ruleFaults() {
        Due.ruleFault("lawful 1;", 1, 7);
        Due.ruleFault("when own;", 1, 0);
        Due.ruleFault("lawful when held;", 1, 12);
        Due.ruleFault("lawful when own", 1, 15);
        Due.ruleFault("lawful when own  ", 1, 17);
        Due.ruleFault("lawful when ;", 1, 12);
        Due.ruleFault("lawful when 12345;", 1, 12);
        Due.ruleFault("lawful when 1 < 2 < 3;", 1, 18);
        Due.ruleFault("lawful when 1 < 2 = 3;", 1, 18);
        Due.ruleFault("lawful when (own;", 1, 16);
        Due.ruleFault("lawful when own);", 1, 15);
        Due.ruleFault("lawful when ();", 1, 13);
        Due.ruleFault("lawful when not;", 1, 15);
        Due.ruleFault("lawful when own own;", 1, 16);
        Due.ruleFault("lawful when own not own;", 1, 16);
        Due.ruleFault("lawful when own and;", 1, 19);
        Due.ruleFault("lawful when and own;", 1, 12);
        Due.ruleFault("lawful when own +;", 1, 17);
        Due.ruleFault("lawful when -1;", 1, 12);
        Due.ruleFault("lawful when own # 1;", 1, 16);
        Due.ruleFault("lawful when lawful;", 1, 12);
        Due.ruleFault("lawful when place;", 1, 12);
        Due.ruleFault("Lawful when own;", 1, 0);
        Due.ruleFault("lawfully when own;", 1, 0);
        Due.ruleFault("lawful when ownownown;", 1, 12);
        Due.ruleFault("place a;", 1, 0);
        String six = "lawful when 1;lawful when 1;lawful when 1;lawful when 1;lawful when 1;lawful when 1;";
        Due.ruleFault(six + "lawful when 1;", 5, 84);
        Due.ruleFault(six + "lawful", 5, 84);
        Due.ruleFault(six + "when", 1, 84);
        Due.ruleFault("lawful when (((((1)))));", 5, 17);
        Due.ruleFault("lawful when ((((((1))))));", 5, 17);
        Due.ruleFault("lawful when (((((not 1)))));", 5, 17);
        Due.ruleFault("lawful when (((((;", 1, 17);
        Due.ruleFault("lawful when (((((held", 1, 17);
        Due.ruleFault("lawful when not not not not not 1;", 5, 32);
        Due.ruleFault("lawful when not(not(not 1));", 5, 24);
        Due.ruleFault("lawful when ((((own + not 1))));", 5, 26);
        OwnMade x = new OwnMade();
        Due.is("six lines", Due.rule(x, six), 0);
        Due.is("six are counted", x.count(5), 6);
        Due.is("four brackets", Due.rule(x, "lawful when ((((1))));"), 0);
        Due.is("four nots", Due.rule(x, "lawful when not not not not 1;"), 0);
        Due.is("brackets beside one another", Due.rule(x, "lawful when ((((1))))+((((2))))*(not(not 1));"), 0);
        Due.is("no blanks", Due.rule(x, "lawful when 1and(own)or not 2<3;\nlawful\nwhen door ;"), 0);
        Due.is("two lines", x.count(5), 2);
    }

    private static void ruleStays() {
        OwnMade x = Due.told(LAND);
        x.make(0, -1, 0, 0);
        Due.is("nothing is lawful", Due.rule(x, "lawful when 0;"), 0);
        Due.is("so it is", x.lawful(0, 1, 0), 0);
        Due.is("a fault", Due.rule(x, "lawful when 1;lawful when"), 1 + 16 * 25);
        Due.is("the tape is empty", x.count(6), 0);
        Due.is("the rule stays", x.count(5), 1);
        Due.is("it is as it was", x.lawful(0, 1, 0), 0);
        Due.is("things stay with a new rule", x.count(3), 1);
        Due.is("an empty rule", x.rule(), 0);
        Due.is("no lines", x.count(5), 0);
        Due.is("own is enough then", x.lawful(0, 1, 0), 1);
        Due.is("any of the lines", Due.rule(x, "lawful when 0;lawful when 1 - 1;lawful when 2 - 3;lawful when 0;"), 0);
        Due.is("one is not 0", x.lawful(0, 1, 0), 1);
        Due.is("none of the lines", Due.rule(x, "lawful when 0;lawful when 1 - 1;lawful when 3 - 3;"), 0);
        Due.is("all are 0", x.lawful(0, 1, 0), 0);
    }

    /** The value of E for a gift: it is the same as this number, and not as the next one. */
    private static void value(OwnMade x, int giver, int receiver, String e, int value) {
        Due.rule(x, "lawful when (" + e + ") = " + value + ";");
        Due.is(e + " is " + value, x.lawful(giver, receiver, 0), 1);
        Due.rule(x, "lawful when (" + e + ") = " + (value + 1) + ";");
        Due.is(e + " is not " + (value + 1), x.lawful(giver, receiver, 0), 0);
    }

    private static void facts() {
        OwnMade x = Due.told(LAND);
        Due.is("a knife", x.make(0, -1, 1, 2), 0);
        value(x, 0, 1, "own", 1);
        value(x, 0, 1, "part", 1);
        value(x, 0, 1, "sort", 2);
        value(x, 0, 1, "door", 1);
        value(x, 0, 1, "hours", 5);
        value(x, 0, 1, "away", 3);
        value(x, 0, 2, "away", 999);
        value(x, 0, 1, "good", 1);
        value(x, 0, 1, "free", 0);
        x.lifted(0, true);
        value(x, 0, 1, "free", 0);
        x.lifted(1, true);
        value(x, 0, 1, "free", 1);
        x.go(0, 1);
        value(x, 0, 1, "door", 0);
        value(x, 0, 1, "away", 3);
        Due.rule(x, "lawful when 1;");
        Due.is("given", x.give(0, 1, 0), 0);
        value(x, 1, 0, "own", 0);
        value(x, 1, 0, "part", 0);
        value(x, 1, 0, "door", 1);
        value(x, 1, 2, "away", 999);
        OwnMade y = Due.told("place a;good g hours 1;person p at a makes g;person q at a makes;person r at a makes;");
        Due.is("together", y.make(0, 1, 0, 3), 0);
        value(y, 0, 1, "own", 0);
        value(y, 0, 1, "part", 1);
        value(y, 0, 1, "sort", 3);
        value(y, 0, 1, "away", 0);
        Due.rule(y, "");
        Due.is("not own", y.lawful(0, 1, 0), 0);
        y.lifted(0, true);
        Due.is("but free", y.lawful(0, 1, 0), 1);
        Due.rule(y, "lawful when own;");
        Due.is("free is nothing if no line says so", y.lawful(0, 1, 0), 0);
    }

    private static void values() {
        OwnMade x = Due.told("place a;good g hours 1;person p at a makes g;person q at a makes;");
        x.make(0, -1, 0, 0);
        value(x, 0, 1, "1 + 2 * 3", 7);
        value(x, 0, 1, "(1 + 2) * 3", 9);
        value(x, 0, 1, "2 * 3 + 1", 7);
        value(x, 0, 1, "10 - 3 - 2", 5);
        value(x, 0, 1, "10 - 3 + 2", 9);
        value(x, 0, 1, "2 * 3 * 4", 24);
        value(x, 0, 1, "0 and 0 or 1", 1);
        value(x, 0, 1, "1 or 1 and 0", 0);
        value(x, 0, 1, "1 or (1 and 0)", 1);
        value(x, 0, 1, "2 and 3", 1);
        value(x, 0, 1, "2 and 0", 0);
        value(x, 0, 1, "0 or 5", 1);
        value(x, 0, 1, "0 or 0", 0);
        value(x, 0, 1, "3 - 4 and 1", 1);
        value(x, 0, 1, "7", 7);
        value(x, 0, 1, "not 7", 0);
        value(x, 0, 1, "not 0", 1);
        value(x, 0, 1, "not not 7", 1);
        value(x, 0, 1, "not 0 + 1", 2);
        value(x, 0, 1, "not 0 * 3", 3);
        value(x, 0, 1, "not (0 + 1)", 0);
        value(x, 0, 1, "1 < 2", 1);
        value(x, 0, 1, "2 < 2", 0);
        value(x, 0, 1, "3 < 2", 0);
        value(x, 0, 1, "2 = 2", 1);
        value(x, 0, 1, "2 = 3", 0);
        value(x, 0, 1, "1 + 1 < 1 * 3", 1);
        value(x, 0, 1, "1 < 2 and 2 < 1", 0);
        value(x, 0, 1, "1 < 2 or 2 < 1", 1);
        value(x, 0, 1, "(1 < 2) + (1 < 2)", 2);
        value(x, 0, 1, "9999 - 9990", 9);
        value(x, 0, 1, "9999*9999*9999 < 0", 1);
        value(x, 0, 1, "9999*9999*9999 * 3 < 0", 0);
        value(x, 0, 1, "1-(2-(3-(4-5)))", 3);
    }

    // ---- promises 5 to 8 ----

    private static void way() {
        OwnMade x = Due.told("place a;place b;place c;place d;place e;way a b 5;way b c 5;way a c 24;way c d 1;way d c 2;");
        Due.is("the shorter way round", x.way(0, 2), 10);
        Due.is("either way", x.way(2, 0), 10);
        Due.is("told again", x.way(2, 3), 2);
        Due.is("through three", x.way(3, 0), 12);
        Due.is("to itself", x.way(4, 4), 0);
        Due.is("none", x.way(0, 4), -1);
        Due.is("others", x.way(0, 5), -1);
        Due.is("others", x.way(5, 0), -1);
        Due.is("others", x.way(-1, 0), -1);
        Due.is("others", x.way(0, -1), -1);
        OwnMade y = Due.told("place a;place b;place c;way a b 1;way b c 1;way a c 1;way b a 24;");
        Due.is("the new one is longer", y.way(0, 1), 2);
        OwnMade z = Due.told("place a;place b;place c;place d;place e;way a b 24;way b c 24;way c d 24;way d e 24;");
        Due.is("the longest", z.way(0, 4), 96);
        Due.is("a place told later may have a way told later", Due.told("place a;place b;way b a 4;place c;way c b 3;").way(0, 2), 7);
    }

    private static void good() {
        OwnMade x = Due.told(LAND);
        Due.is("hours", x.good(1, 0), 5);
        Due.is("hours", x.good(2, 0), 1);
        Due.is("from nothing", x.good(0, 1), 0);
        Due.is("from two", x.good(2, 1), 3);
        Due.is("makers", x.good(0, 2), 3);
        Due.is("maker", x.good(1, 2), 1);
        Due.is("no maker", x.good(2, 2), 0);
        Due.is("other what", x.good(0, 3), -1);
        Due.is("other what", x.good(0, -1), -1);
        Due.is("other good", x.good(3, 0), -1);
        Due.is("other good", x.good(-1, 0), -1);
    }

    private static void worth() {
        OwnMade x = Due.told(LAND);
        Due.is("first", x.worth(0, 2, 0), 20);
        Due.is("second", x.worth(0, 2, 1), 5);
        Due.is("third, not told", x.worth(0, 2, 2), 0);
        Due.is("second, not told", x.worth(0, 1, 1), 0);
        Due.is("of another", x.worth(1, 0, 1), 9);
        Due.is("not wanted", x.worth(1, 2, 0), 0);
        Due.is("k 3", x.worth(0, 2, 3), -1);
        Due.is("k -1", x.worth(0, 2, -1), -1);
        Due.is("no such good", x.worth(0, 3, 0), -1);
        Due.is("no such good", x.worth(0, -1, 0), -1);
        Due.is("no such one", x.worth(3, 0, 0), -1);
        Due.is("no such one", x.worth(-1, 0, 0), -1);
    }

    private static void person() {
        OwnMade x = Due.told(LAND);
        x.make(0, -1, 1, 0);
        x.make(0, -1, 1, 0);
        x.make(1, -1, 0, 0);
        x.make(1, -1, 0, 0);
        x.make(1, -1, 0, 0);
        x.go(0, 1);
        Due.is("home", x.person(0, 0), 0);
        Due.is("place now", x.person(0, 1), 1);
        Due.is("clock", x.person(0, 2), 13);
        Due.is("happy: the first knife alone", x.person(0, 3), 7);
        Due.is("happy by two of three", x.person(1, 3), 18);
        Due.is("held", x.person(0, 4), 2);
        Due.is("held", x.person(1, 4), 3);
        Due.is("makes", x.person(0, 5), 3);
        Due.is("makes nothing", x.person(2, 5), 0);
        Due.is("home", x.person(2, 0), 2);
        Due.is("other what", x.person(0, 6), -1);
        Due.is("other what", x.person(0, -1), -1);
        Due.is("other one", x.person(3, 0), -1);
        Due.is("other one", x.person(-1, 0), -1);
    }
}
