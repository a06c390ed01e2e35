/** The boundaries of Terms, part 1, and of promises 1 to 8, sentence by sentence: the tape, both languages, what is told. */
final class TellingBoundsTest {
    private static final String[] NO_NAMES = {"place", "way", "good", "hours", "from", "person", "at", "makes", "wants"};
    private static final String[] RULE_WORDS = {"lawful", "when", "and", "or", "not", "own", "part", "sort", "door", "away", "free"};
    private static final String PLACES = "place a;place b;place c;place d;place e;";
    private static final String GOODS = "good f hours 1;good g hours 1;good h hours 1;good i hours 1;good j hours 1;good k hours 1;";
    private static final String TWO = "place a;place b;";
    private static final String PEOPLE = "person p at a makes;person q at a makes;person r at a makes;person s at a makes;"
            + "person t at a makes;person u at a makes;person v at a makes;person w at a makes;";
    // 2147483647, of NUMBERS of four digits
    private static final String MOST = "(9999*9999*21+4790*9999+8416)";

    public static void main(String[] args) {
        tape();
        tokens();
        counts();
        ways();
        goods();
        people();
        names();
        ruleLines();
        expressions();
        depth();
        facts();
        wraps();
        faults();
        faultKinds();
        takesEffect();
        lawful();
        Doc.whole("Constants", "Terms 1");
        newObject();
        feed();
        landAndRule();
        way();
        good();
        worth();
        person();
        Doc.wholePromises(1, 8);
        Due.end("TellingBoundsTest");
    }

    // ---- Terms, part 1: the tape and its tokens ----

    private static void tape() {
        Doc.says("Constants", "`NONE = -1`: None.");
        Due.is("NONE", OwnMade.NONE, -1);
        Due.is("as it is answered", new OwnMade().way(0, 0), OwnMade.NONE);

        Doc.says("Terms 1", "The TAPE has at most 1,000 signs, 10 and 32 .. 126");
        OwnMade x = new OwnMade();
        Due.is("999", Due.feed(x, " ".repeat(999)), 999);
        Due.is("1,000", Due.feed(x, " "), 1000);
        Due.is("not 1,001", Due.feed(x, " "), 1000);
        Due.is("nor 24 more", Due.feed(x, "a".repeat(24)), 1000);
        Due.is("as counted", x.count(6), 1000);
        Due.is("what was there is there still", x.land(), 0);
        for (long sign = 0; sign < 256; sign++) {
            int stays = sign == 10 || sign >= 32 && sign <= 126 ? 1 : 0;
            Due.is("sign " + sign, new OwnMade().feed(sign << 56, 0, 0), stays);
        }

        Doc.says("Terms 1", "what reads it takes it: it is empty then.");
        OwnMade y = new OwnMade();
        Due.is("told", Due.land(y, "place a;") + y.count(6), 0);
        Due.is("the empty one is read next", y.land() + y.count(0), 0);
        Due.is("with a FAULT", Due.land(y, "place a"), 1 + 16 * 7);
        Due.is("it is empty, too", y.count(6), 0);
        Due.is("so the next text begins at 0", Due.land(y, "way;"), 1 + 16 * 3);
        Due.is("a RULE takes it", Due.rule(y, "lawful when 1;") + y.count(6), 0);
        Due.is("with a FAULT", Due.rule(y, "lawful"), 1 + 16 * 6);
        Due.is("it is empty, too", y.count(6), 0);
        Due.is("as a RULE", y.rule() + y.count(5), 0);
    }

    private static void tokens() {
        Doc.says("Terms 1", "TOKENS, each as long as can be, blanks (10, 32) between where one likes:");
        Due.landFine("place a;");
        Due.landWrong(1, "^placea;");
        Due.landFine(TWO + "way a b 24;");
        Due.landWrong(1, TWO + "way a b 2 ^4;");
        Due.landWrong(2, TWO + "way ^ab 4;");
        Due.landFine("");
        Due.landFine(" ");
        Due.landFine("\n");
        Due.landFine(" \n  \n\nplace\n \na\n;\n\n");
        Due.landWrong(1, "^pla ce a;");
        Due.landFine("place a;good g hours1;person p at a makes g wants g 5;");

        Doc.says("Terms 1", "WORDS (letters a .. z, 8 at most),");
        Due.landFine("place a;place z;place azazazaz;");
        Due.landFine("place abcdefg;place abcdefgh;");
        Due.landWrong(1, "place ^abcdefghi;");
        Due.landWrong(1, "place ^abcdefghijklmnopqrstuvwxyz;");
        for (char sign : new char[] {'`', '{', '@', '[', 'A', 'Z'}) {
            Due.landWrong(1, "place ^" + sign + ";");
            Due.landWrong(1, "place a^" + sign + ";");
        }

        Doc.says("Terms 1", "NUMBERS (1 to 4 digits; a letter may stand right behind),");
        Due.landFine(TWO + "way a b 7;way a b 07;way a b 007;way a b 0007;");
        Due.landWrong(1, TWO + "way a b ^00007;");
        Due.landWrong(1, TWO + "way a b ^;");
        Due.landFine("place a;good f hours 1;good g hours 1from f;person p at a makes wants g 0009wants f 9;");
        Due.landWrong(1, TWO + "way a b 7^a;");
        Due.landWrong(1, TWO + "way a b 7^abcdefghi;");
        Due.landWrong(1, TWO + "way a b ^12345a;");
        Due.landWrong(1, TWO + "way a b ^/;");
        Due.landWrong(1, TWO + "way a b ^:;");
        OwnMade digits = Due.told("place a;good f hours 1;person p at a makes wants f 890 543 210;");
        Due.is("all digits", digits.worth(0, 0, 0) * 1000000L + digits.worth(0, 0, 1) * 1000 + digits.worth(0, 0, 2), 890543210);
        Due.ruleFine("lawful when 9999;");
        Due.ruleWrong(1, "lawful when ^10000;");

        Doc.says("Terms 1", "the signs ( ) < = + - * ;");
        for (char sign = 33; sign < 127; sign++) {
            boolean word = sign >= 'a' && sign <= 'z' || sign >= '0' && sign <= '9';
            if ("<=+-*".indexOf(sign) >= 0) {
                Due.ruleFine("lawful when 1 " + sign + " 1;");
            } else if (sign == ';') {
                Due.ruleWrong(1, "lawful when 1 ; ^1;");
            } else if (!word) {
                Due.ruleFault("lawful when 1 " + sign + " 1;", 1, 14);
            }
        }
        Due.ruleFine("lawful when(1);");

        Doc.says("Terms 1", "All else (a longer WORD or NUMBER, too, at its first sign) is none.");
        Due.landWrong(1, "^abcdefghi");
        Due.landWrong(1, "^12345");
        Due.landWrong(1, "^placeplace a;");
        Due.landWrong(1, "place^?a;");
        Due.landWrong(1, "place a^?;");
        Due.landWrong(1, "place a;^.");
        Due.ruleWrong(1, "lawful when ^ownownown;");
        Due.ruleWrong(1, "lawful when 1^,1;");
    }

    // ---- Terms, part 1: a land ----

    private static void counts() {
        Doc.says("Terms 1", "LAND: any number of place NAME ; way NAME NAME N ; good NAME hours N FROM ; "
                + "person NAME at NAME makes NAME .. WANTS .. ;");
        Due.landFine("");
        Due.landFine("place a;");
        Due.landFine(PLACES + GOODS + PEOPLE);
        OwnMade full = Due.told(TWO + "way a b 11;".repeat(88) + "way b a 9;");
        Due.is("89 ways, some 1,000 signs", full.way(0, 1), 9);
        Due.landWrong(1, "place a;^;");
        Due.landWrong(1, "place a;place^");
        Due.landWrong(1, "place a;^a");

        Doc.says("Terms 1", "PLACES, 5 at most, GOODS, 6 at most, PEOPLE, 8 at most, each numbered as told.");
        Due.is("4 places", Due.told("place a;place b;place c;place d;").count(0), 4);
        Due.is("5 places", Due.told(PLACES).count(0), 5);
        Due.landWrong(5, PLACES + "^place f;");
        Due.is("5 goods", Due.told(GOODS.substring(0, 75)).count(1), 5);
        Due.is("6 goods", Due.told(GOODS).count(1), 6);
        Due.landWrong(5, GOODS + "^good l hours 1;");
        Due.is("7 people", Due.told("place a;" + PEOPLE.substring(0, 140)).count(2), 7);
        Due.is("8 people", Due.told("place a;" + PEOPLE).count(2), 8);
        Due.landWrong(5, "place a;" + PEOPLE + "^person x at a makes;");
        OwnMade x = Due.told(PLACES + "good z hours 9;good y hours 3;way e a 4;person zz at e makes;"
                + "person aa at a makes y;");
        Due.is("the first good is 0", x.good(0, 0), 9);
        Due.is("the last one is 1", x.good(1, 0), 3);
        Due.is("e is 4", x.person(0, 0), 4);
        Due.is("a is 0", x.person(1, 0), 0);
        Due.is("y is 1", x.person(1, 5), 2);
        Due.is("e to a", x.way(4, 0), 4);
    }

    private static void ways() {
        Doc.says("Terms 1", "way: two PLACES told, not the same, 1 to 24 HOURS either way (told again: the new one).");
        Due.landWrong(4, TWO + "way a b ^0;");
        Due.landFine(TWO + "way a b 1;");
        Due.landFine(TWO + "way a b 24;");
        Due.landWrong(4, TWO + "way a b ^25;");
        Due.landWrong(4, TWO + "way a b ^9999;");
        Due.landWrong(3, TWO + "way a ^a 5;");
        Due.landWrong(3, TWO + "way b ^b 5;");
        Due.landWrong(2, TWO + "way a ^c 5;place c;");
        Due.landWrong(2, TWO + "way ^c a 5;");
        Due.landFine(TWO + "place c;way c a 5;");
        OwnMade one = Due.told(TWO + "way b a 5;");
        Due.is("there", one.way(0, 1), 5);
        Due.is("and back", one.way(1, 0), 5);
        OwnMade again = Due.told(TWO + "way a b 5;way a b 6;");
        Due.is("the new one, though longer", again.way(0, 1), 6);
        OwnMade back = Due.told(TWO + "way a b 5;way b a 24;");
        Due.is("told the other way round", back.way(0, 1), 24);
        OwnMade less = Due.told("place a;place b;place c;way a b 3;way a c 4;way b c 9;");
        Due.is("fewer ways", Due.land(less, "place a;place b;place c;place d;") + Due.land(less, "place a;place b;place c;"), 0);
        Due.is("none is left of those before", less.way(0, 1) + less.way(1, 0) + less.way(1, 2), -3);
        Due.is("and back", back.way(1, 0), 24);
    }

    private static void goods() {
        Doc.says("Terms 1", "good: HOURS to make one, 1 to 24;");
        Due.landWrong(4, "good g hours ^0;");
        Due.is("1", Due.told("good g hours 1;").good(0, 0), 1);
        Due.is("24", Due.told("good g hours 24;").good(0, 0), 24);
        Due.landWrong(4, "good g hours ^25;");
        Due.landWrong(4, "good g hours ^9999;");
        Due.landWrong(1, "good g hours^;");

        Doc.says("Terms 1", "FROM is nothing or from NAME .. : GOODS told, each once, one of each goes into it.");
        String five = GOODS.substring(0, 75);
        Due.is("nothing", Due.told(GOODS).good(5, 1), 0);
        Due.is("one", Due.told(five + "good k hours 1 from j;").good(5, 1), 16);
        Due.is("all that are told", Due.told(five + "good k hours 1 from h f g j i;").good(5, 1), 31);
        Due.landWrong(3, five + "good k hours 1 from h f g j i ^h;");
        Due.landWrong(3, five + "good k hours 1 from f ^f;");
        Due.landWrong(1, five + "good k hours 1 from^;");
        Due.landWrong(1, five + "good k hours 1 from f ^from g;");
        Due.landWrong(2, five + "good k hours 1 from ^k;");
        Due.landWrong(2, five + "good k hours 1 from f ^k;");
        Due.landWrong(2, "good g hours 1 from ^h;good h hours 1;");
        OwnMade x = Due.told("place a;good f hours 1;good g hours 1;good h hours 1 from f g;person p at a makes f g h;");
        Due.is("two f", x.make(0, -1, 0, 0) + x.make(0, -1, 0, 0), 0);
        Due.is("one of them is missing", x.make(0, -1, 2, 0), 3);
        Due.is("a g", x.make(0, -1, 1, 0), 0);
        Due.is("one of each", x.make(0, -1, 2, 0), 0);
        Due.is("one f is left, and an h", x.person(0, 4), 2);
    }

    private static void people() {
        String land = "place a;" + GOODS + "person p at a makes";
        Doc.says("Terms 1", "person: the PLACE of their HOME;");
        Due.landFine("place a;person p at a makes;");
        Due.landWrong(2, "place a;person p at ^b makes;");
        Due.landWrong(2, "place a;good g hours 1;person p at ^g makes;");
        Due.landWrong(2, "place a;person p at ^p makes;");
        Due.landWrong(2, "person p at ^a makes;");
        Due.landWrong(1, "place a;person p at ^makes;");

        Doc.says("Terms 1", "makes: nothing or GOODS told, each once;");
        Due.is("nothing", Due.told(land + ";").person(0, 5), 0);
        Due.is("one", Due.told(land + " k;").person(0, 5), 32);
        Due.is("all", Due.told(land + " k f j g i h;").person(0, 5), 63);
        Due.landWrong(3, land + " f ^f;");
        Due.landWrong(3, land + " k f j g i h ^k;");
        Due.landWrong(3, land + " k f j g i h ^h;");
        Due.landWrong(2, land + " ^l;");
        Due.landWrong(2, land + " ^a;");
        Due.landWrong(2, land + " k f j g i h ^l;");
        Due.landWrong(1, "place a;person p at a^;");
        wants(land);
    }

    private static void wants(String land) {
        Doc.says("Terms 1", "WANTS, any number of wants NAME N N N : a GOOD told, once for one person,");
        String all = land + " wants k 1 wants f 2 wants j 3 wants g 4 wants i 5 wants h 6";
        Due.landFine(land + ";");
        OwnMade x = Due.told(all + ";");
        Due.is("all are wanted", x.worth(0, 0, 0) * 10 + x.worth(0, 5, 0), 21);
        Due.landWrong(3, all + " wants ^k 1;");
        Due.landWrong(3, all + " wants ^h 1;");
        Due.landWrong(3, land + " wants f 2 wants ^f 2;");
        Due.landFine(land + " wants f 2;person q at a makes wants f 2;");
        Due.landWrong(2, land + " wants ^l 2;");
        Due.landWrong(2, land + " wants ^a 2;");
        Due.landWrong(2, land + " wants ^p 2;");
        Due.landWrong(1, land + " wants ^2;");
        Due.landWrong(1, land + " wants f 2 ^f 2;");

        Doc.says("Terms 1", "1 to 3 worths (0 to 999) of the first, second, third one of it, none above the one ahead.");
        Due.landWrong(1, land + " wants f^;");
        Due.landWrong(1, land + " wants f ^wants g 1;");
        OwnMade y = Due.told(land + " wants f 3 wants g 3 2 wants h 3 2 1 wants i 0 wants j 0 0 0 wants k 999 999 999;");
        int[] due = {300, 320, 321, 0, 0, 999 * 111};
        for (int good = 0; good < 6; good++) {
            Due.is("worths of " + good, y.worth(0, good, 0) * 100 + y.worth(0, good, 1) * 10 + y.worth(0, good, 2), due[good]);
        }
        Due.landWrong(1, land + " wants h 3 2 1 ^0;");
        Due.landWrong(4, land + " wants f ^1000;");
        Due.landWrong(4, land + " wants f 999 ^1000;");
        Due.landWrong(4, land + " wants f ^9999;");
        Due.landWrong(1, land + " wants f ^-1;");
        Due.landFine(land + " wants f 5 5 5;");
        Due.landWrong(4, land + " wants f 5 ^6;");
        Due.landWrong(4, land + " wants f 5 5 ^6;");
        Due.landWrong(4, land + " wants f 5 4 ^5;");
        Due.landWrong(4, land + " wants f 0 ^1;");
        Due.landWrong(4, land + " wants f 0 0 ^1;");
        Due.landFine(land + " wants f 0 wants g 1;");
        OwnMade less = Due.told(land + " wants f 3 2 1 wants g 3;");
        Due.is("with a FAULT", Due.land(less, land + " wants h 3 2 1 wants i 3"), 1 + 16 * (land.length() + 24));
        Due.is("fewer wants, twice", Due.land(less, land + ";") + Due.land(less, land + ";"), 0);
        int left = 0;
        for (int good = 0; good < 6; good++) {
            left += less.worth(0, good, 0) + less.worth(0, good, 1) + less.worth(0, good, 2);
        }
        Due.is("no worth is left of those before", left, 0);
    }

    private static void names() {
        Doc.says("Terms 1", "A NAME is another WORD than place, way, good, hours, from, person, at, makes, wants;");
        for (String no : NO_NAMES) {
            Due.landWrong(1, "place ^" + no + ";");
            Due.landWrong(1, "good ^" + no + " hours 1;");
            Due.landWrong(1, "place a;person ^" + no + " at a makes;");
            Due.landWrong(1, "place a;way a ^" + no + " 3;");
            Due.landFine("place " + no + "a;");
        }
        for (String yes : RULE_WORDS) {
            Due.landFine("place " + yes + ";");
            Due.landFine("good " + yes + " hours 1;place a;person p at a makes " + yes + " wants " + yes + " 3;");
            Due.landFine("place a;place " + yes + ";way a " + yes + " 4;person p at " + yes + " makes;");
            Due.landFine("place a;person " + yes + " at a makes;");
        }

        Doc.says("Terms 1", "no two that are told (of PLACES, GOODS, PEOPLE together) are alike.");
        String one = "place x;";
        String two = "good x hours 1;";
        String three = "place o;person x at o makes;";
        Due.landWrong(3, one + "place ^x;");
        Due.landWrong(3, one + "good ^x hours 1;");
        Due.landWrong(3, one + "place o;person ^x at o makes;");
        Due.landWrong(3, two + "place ^x;");
        Due.landWrong(3, two + "good ^x hours 1;");
        Due.landWrong(3, two + "place o;person ^x at o makes;");
        Due.landWrong(3, three + "place ^x;");
        Due.landWrong(3, three + "good ^x hours 1;");
        Due.landWrong(3, three + "person ^x at o makes;");
        Due.landFine("place x;good xx hours 1;person xxx at x makes;place xxxxxxxx;good xxxxxxx hours 1;");
        Due.landFine("place ab;place ba;good b hours 1;person bb at ab makes;");
        OwnMade y = Due.told(one);
        Due.is("those of the land before are not told", Due.land(y, "good x hours 1;"), 0);
    }

    // ---- Terms, part 1: a rule ----

    private static void ruleLines() {
        Doc.says("Terms 1", "RULE: any number of lawful when E ; 6 at most.");
        String line = "lawful when 1;";
        for (int n = 0; n <= 6; n++) {
            OwnMade x = new OwnMade();
            Due.is(n + " lines", Due.rule(x, line.repeat(n)), 0);
            Due.is(n + " are counted", x.count(5), n);
        }
        Due.ruleWrong(5, line.repeat(6) + "^lawful when 1;");
        Due.ruleWrong(5, line.repeat(6) + "^lawful");
        Due.ruleWrong(1, line.repeat(6) + "^when");
        Due.ruleWrong(1, line + "^;");
    }

    /** What E comes to, for a gift of a GOOD told in a LAND of two. */
    private static void value(String e, int value) {
        OwnMade x = giver("1");
        Due.is("rule: " + e, Due.rule(x, "lawful when (" + e + ") = " + value + ";"), 0);
        Due.is(e + " is " + value, x.lawful(0, 1, 0), 1);
        Due.rule(x, "lawful when (" + e + ") = " + (value + 1) + ";");
        Due.is(e + " is not " + (value + 1), x.lawful(0, 1, 0), 0);
    }

    private static void so(String e, boolean so) {
        OwnMade x = giver("1");
        Due.is("rule: " + e, Due.rule(x, "lawful when " + e + ";"), 0);
        Due.is(e, x.lawful(0, 1, 0), so ? 1 : 0);
    }

    private static OwnMade giver(String hours) {
        OwnMade x = Due.told("place a;good g hours " + hours + ";person p at a makes g;person q at a makes;");
        Due.is("made", x.make(0, -1, 0, 0), 0);
        return x;
    }

    private static void expressions() {
        Doc.says("Terms 1", "E: TEST { and TEST or or TEST }, from the left;");
        value("1 or 1 and 0", 0);
        value("0 and 0 or 1", 1);
        value("0 and 1 or 1 and 1", 1);
        Due.ruleWrong(1, "lawful when ^and 1;");
        Due.ruleWrong(1, "lawful when 1 and^;");
        Due.ruleWrong(1, "lawful when 1 or ^or 1;");
        Due.ruleFine("lawful when 1" + " and 1".repeat(160) + ";");
        Doc.says("Terms 1", "TEST: SUM, or SUM < SUM, or SUM = SUM;");
        value("7", 7);
        value("1 < 2", 1);
        value("2 < 2", 0);
        value("2 = 2", 1);
        value("3 = 2", 0);
        value("3 < 2", 0);
        value("(3 < 2) < 1", 1);
        Due.ruleWrong(1, "lawful when 1 < 2 ^< 3;");
        Due.ruleWrong(1, "lawful when 1 = 2 ^< 3;");
        Due.ruleWrong(1, "lawful when 1 < 2 ^= 3;");
        Due.ruleFine("lawful when 1 < 2 and 2 < 3;");
        Due.ruleWrong(1, "lawful when 1 <^;");
        Due.ruleWrong(1, "lawful when ^< 1;");
        Doc.says("Terms 1", "SUM: PRODUCT { + or - PRODUCT };");
        value("10 - 3 - 2", 5);
        value("10 - 3 + 2", 9);
        value("2 + 3 * 4", 14);
        Due.ruleWrong(1, "lawful when ^- 1;");
        Due.ruleWrong(1, "lawful when 1 + ^+ 1;");
        OwnMade x = giver("1");
        Due.is("as many as the tape holds", Due.rule(x, "lawful when 1" + "+1".repeat(492) + "=2;"), 0);
        Due.is("493", x.lawful(0, 1, 0), 0);
        Due.rule(x, "lawful when 1" + "+1".repeat(490) + "=491;");
        Due.is("491", x.lawful(0, 1, 0), 1);
        Doc.says("Terms 1", "PRODUCT: PART { * PART };");
        value("2 * 3 * 4", 24);
        value("2 * 0 * 4", 0);
        Due.ruleWrong(1, "lawful when ^* 1;");
        Due.ruleWrong(1, "lawful when 1 *^;");
        Doc.says("Terms 1", "PART: a NUMBER, a fact, not PART, ( E );");
        value("0", 0);
        value("9999 - 1", 9998);
        value("own", 1);
        value("not 2", 0);
        value("not 0", 1);
        value("(4)", 4);
        Due.ruleWrong(1, "lawful when (^);");
        Due.ruleWrong(1, "lawful when not^;");
        Due.ruleWrong(1, "lawful when (1^;");
        Due.ruleWrong(1, "lawful when 1^);");
        Due.ruleWrong(1, "lawful when 1 ^1;");
        Due.ruleWrong(1, "lawful when ^makes;");
        Due.ruleWrong(1, "lawful when ^lawful;");
    }

    /** So many of not and ( around, each bit of the mask one of them. */
    private static String around(int many, int mask, String part) {
        StringBuilder text = new StringBuilder("lawful when ");
        for (int i = 0; i < many; i++) {
            text.append((mask >> i & 1) == 1 ? "not " : "(");
        }
        text.append(part);
        for (int i = 0; i < many; i++) {
            text.append((mask >> i & 1) == 1 ? "" : ")");
        }
        return text.append(';').toString();
    }

    private static void depth() {
        Doc.says("Terms 1", "no PART lies within 5 of not and ( ).");
        for (int mask = 0; mask < 16; mask++) {
            Due.ruleFine(around(4, mask, "7"));
            Due.ruleFine(around(4, mask, "own"));
            Due.ruleWrong(5, around(4, mask, "not ^7"));
            Due.ruleWrong(5, around(4, mask, "(^7)"));
        }
        for (int mask = 0; mask < 32; mask++) {
            Due.ruleWrong(5, around(5, mask, "^7"));
            Due.ruleWrong(5, around(5, mask, "^own"));
            Due.ruleWrong(5, around(5, mask, "^not 7"));
            Due.ruleWrong(5, around(5, mask, "^(7)"));
            Due.ruleWrong(1, around(5, mask, "^;"));
            Due.ruleWrong(1, around(5, mask, "^held"));
        }
        Due.ruleFine("lawful when ((((1))))+((((1))))*((((1))));");
        Due.ruleFine("lawful when (((not 1 + not 1 * (1))));");
        Due.ruleWrong(5, "lawful when ((((1 + not ^1))));");
        Due.ruleFine("lawful when not not not not 1 and not not not not 1;");
        Due.ruleWrong(5, "lawful when not not not not not ^1;");
        Due.is("each is counted", Due.rule(new OwnMade(), around(4, 15, "0") + around(4, 0, "0")), 0);
        so("not not not not 0", false);
        so("not not not 0", true);
        so("not not not not 3", true);
        so("((((3 - 3))))", false);
        // what waits at each of the levels is not lost
        so("1+2*(3-4*(5+6*(7-8*(9+1*1))))=3471", true);
        so("1+2*(3-4*(5+6*(7-8*(9+1*1))))=3472", false);
        so("0 or 1=0+1*(0 or 1=0+1*(0 or 1=0+1*(0 or 1=0+1*(0 or 1=0+1*1))))", true);
        so("0 or 1=0+1*(0 or 1=0+1*(0 or 1=0+1*(0 or 1=0+1*(0 or 1=0+1*2))))", false);
    }

    private static void fact(OwnMade x, int giver, int receiver, int thing, String fact, int value) {
        Due.is("rule", Due.rule(x, "lawful when " + fact + " = " + value + ";"), 0);
        Due.is(fact + " is " + value, x.lawful(giver, receiver, thing), 1);
        Due.rule(x, "lawful when " + fact + " = " + (value + 1) + ";");
        Due.is(fact + " is not " + (value + 1), x.lawful(giver, receiver, thing), 0);
    }

    private static void facts() {
        OwnMade x = Due.told("place a;place b;place c;way a b 24;" + GOODS.replace("good f hours 1", "good f hours 24")
                + "person p at a makes f k;person q at b makes;person r at a makes;person s at c makes;");
        Due.is("0: f alone", x.make(0, -1, 0, 3), 0);
        Due.is("1: k by p and r, sort 0", x.make(0, 2, 5, 0), 0);
        Due.is("2: k by r and p, r holds it", x.make(2, 0, 5, 1), 0);
        Doc.says("Terms 1", "Facts of a gift: own (1 if the giver alone made it), part (1 if one of its makers is the giver),");
        fact(x, 0, 1, 0, "own", 1);
        fact(x, 0, 1, 0, "part", 1);
        fact(x, 0, 1, 1, "own", 0);
        fact(x, 0, 1, 1, "part", 1);
        fact(x, 2, 1, 2, "own", 0);
        fact(x, 2, 1, 2, "part", 1);
        Due.rule(x, "lawful when 1;");
        Due.is("given", x.give(0, 2, 0), 0);
        fact(x, 2, 1, 0, "own", 0);
        fact(x, 2, 1, 0, "part", 0);
        Doc.says("Terms 1", "sort (0 made, 1 mended, 2 grown, 3 hired),");
        fact(x, 2, 1, 0, "sort", 3);
        fact(x, 0, 1, 1, "sort", 0);
        Doc.says("Terms 1", "door (1 if the giver is at HOME), hours (to make one),");
        fact(x, 2, 1, 0, "door", 1);
        fact(x, 2, 1, 0, "hours", 24);
        fact(x, 0, 1, 1, "hours", 1);
        Due.is("away from home", x.go(0, 1), 0);
        fact(x, 0, 1, 1, "door", 0);
        Due.is("home again", x.go(0, 0), 0);
        fact(x, 0, 1, 1, "door", 1);
        Doc.says("Terms 1", "away (HOURS of the shortest way from the giver's HOME to the receiver's; 999 if none),");
        fact(x, 0, 2, 1, "away", 0);
        fact(x, 0, 1, 1, "away", 24);
        fact(x, 0, 3, 1, "away", 999);
        Due.is("where they are is nothing", x.go(0, 1), 0);
        fact(x, 0, 1, 1, "away", 24);
        Doc.says("Terms 1", "good (its number), free (1 if the law is LIFTED for this GOOD).");
        fact(x, 2, 1, 0, "good", 0);
        fact(x, 0, 1, 1, "good", 5);
        fact(x, 0, 1, 1, "free", 0);
        Due.is("another one is lifted", x.lifted(0, true), true);
        fact(x, 0, 1, 1, "free", 0);
        fact(x, 2, 1, 0, "free", 1);
        Due.is("it is lifted", x.lifted(5, true), true);
        fact(x, 0, 1, 1, "free", 1);
    }

    private static void wraps() {
        Doc.says("Terms 1", "Of not, and, or, < and = comes 1 or 0; what is not 0 is so; ints wrap.");
        value("not 0 + not 0", 2);
        value("(5 and 7) + (5 or 0) + (1 < 2) + (2 = 2)", 4);
        value("(0 and 7) + (0 or 0) + (2 < 2) + (2 = 3) + not 9", 0);
        so("0", false);
        so("1", true);
        so("2", true);
        so("0 - 1", true);
        so("(0 - 1) and 1", true);
        so("0 or (0 - 1)", true);
        so("not (0 - 1)", false);
        so(MOST + " < 0", false);
        so(MOST + " + 1 < 0", true);
        so("0 - " + MOST + " - 1 < 0", true);
        so("0 - " + MOST + " - 2 < 0", false);
        so("0 - " + MOST + " - 2 = " + MOST, true);
        so("0 - " + MOST + " - 1 = " + MOST + " + 1", true);
        so("0 - " + MOST + " - 1 < " + MOST, true);
        so(MOST + " < 0 - " + MOST + " - 1", false);
        so(MOST + " * " + MOST + " = 1", true);
        so("256*256*256*128", true);
        so("256*256*256*128 < 0", true);
        so("256*256*256*256", false);
        so("256*256*256*256 + 1", true);
        so("not (256*256*256*256)", true);
    }

    // ---- Terms, part 1: faults ----

    private static void faults() {
        Doc.says("Terms 1", "FAULTS, kind + 16 * the place (from 0) of a token, the end being one at the text's length:");
        Due.landWrong(1, "^?");
        Due.landWrong(1, "place^");
        Due.landWrong(1, "place ^");
        Due.landWrong(1, "place\n\n ^");
        Due.landWrong(1, "place a;way^");
        Due.landWrong(1, " ^;");
        Due.landWrong(1, " ".repeat(999) + "^;");
        Due.landWrong(1, " ".repeat(995) + "place^");
        Due.is("what is beyond 1,000 is no part of the text", Due.land(new OwnMade(), " ".repeat(993) + "place a;"), 1 + 16 * 1000);
        Due.landFine(" ".repeat(992) + "place a;");
        Due.ruleWrong(1, "lawful^");
        Due.ruleWrong(1, "lawful when own  ^");
        Due.ruleWrong(1, " ".repeat(985) + "lawful when own^");
        Due.ruleFine(" ".repeat(984) + "lawful when own;");

        Doc.says("Terms 1", "of the first token from the left that is wrong the least:");
        Due.landWrong(3, "place a;place ^a;way a a 99;?");
        Due.landWrong(2, "place a;way a ^b 99;");
        Due.landWrong(1, "place a;way ^? b 99;");
        Due.landWrong(1, PLACES + "^?place f;");
        Due.landWrong(1, "place a ^place a;");
        Due.landWrong(1, TWO + "way a b 3 ^place a;");
        Due.landWrong(1, "place a;good g hours 3 ^place a;");
        Due.landWrong(1, "place a;person p at a makes ^place a;");
        Due.landWrong(1, "place a;good g hours 1;person p at a makes wants g 1 ^place a;");
        Due.landWrong(2, "place a;person p at a makes ^b;place a;");
        Due.ruleWrong(1, "lawful ^lawful 1;");
        Due.ruleWrong(1, "lawful when 1 ^lawful 1;");
        Due.ruleWrong(1, "lawful when (1 ^lawful 1;");
        Due.landWrong(5, PLACES + "^place ?;");
        Due.ruleWrong(1, "lawful when (((((^?;");
        Due.ruleWrong(5, "lawful when (((((^1 ?;");
        Due.ruleWrong(1, "lawful when (((((^);");
        Due.ruleWrong(1, "lawful when 1 ^? (((((1;");
        Due.ruleWrong(1, "lawful when 1;".repeat(6) + "^? lawful");
    }

    private static void faultKinds() {
        String land = TWO + GOODS + "person p at a makes ";
        Doc.says("Terms 1", "1 it is none, or can't stand there;");
        Due.landWrong(1, TWO + "^12345");
        Due.landWrong(1, TWO + "^1234");
        Due.landWrong(1, TWO + "way a b 3^?");
        Due.landWrong(1, TWO + "way a b 3 ^(");
        Doc.says("Terms 1", "2 a NAME of no PLACE (behind way, at), of no GOOD told (behind from, makes, wants);");
        Due.landWrong(2, land + ";way ^f a 3;");
        Due.landWrong(2, land + ";way a ^p 3;");
        Due.landWrong(2, land + ";person q at ^p makes;");
        Due.landWrong(2, "place a;good f hours 1;good g hours 1 from ^a;");
        Due.landWrong(2, land + "f ^p;");
        Due.landWrong(2, land + "f wants ^b 3;");
        Due.landFine(land + "f wants k 3;way a b 3;person q at b makes;");
        Doc.says("Terms 1", "3 a NAME that is told, behind place, good, person; the same one again behind way, from, makes, wants;");
        Due.landWrong(3, land + ";place ^p;");
        Due.landWrong(3, TWO + "good ^b hours 1;");
        Due.landWrong(3, land + ";person ^f at a makes;");
        Due.landWrong(3, land + ";way b ^b 3;");
        Due.landWrong(3, "place a;good f hours 1;good g hours 1 from f ^f;");
        Due.landWrong(3, land + "f g ^f;");
        Due.landWrong(3, land + "f wants f 1 wants ^f 1;");
        Due.landFine(land + "f wants f 1;person q at a makes f wants f 1;");
        Doc.says("Terms 1", "4 a NUMBER that is not as told;");
        Due.landWrong(4, TWO + "way a b ^25;");
        Due.landFine(TWO + "way a b 24;");
        Due.landWrong(4, "good f hours ^0;");
        Due.landWrong(4, land + "wants f 1 ^2;");
        Doc.says("Terms 1", "5 one too many: the word place, good, person of one more, lawful of a seventh; "
                + "not, or a PART, within 5 others.");
        Due.landWrong(5, PLACES + "^place");
        Due.landWrong(5, PLACES + "^place e;");
        Due.landWrong(5, GOODS + "^good at hours;");
        Due.landWrong(5, "place a;" + PEOPLE + "^person place");
        Due.landFine(PLACES + GOODS + PEOPLE + "way a b 4;");
        Due.ruleWrong(5, "lawful when 1;".repeat(6) + "^lawful 1");
        Due.ruleWrong(5, "lawful when (((((^not ?");
        Due.ruleWrong(5, "lawful when not not not not not ^not 1;");
        Due.ruleWrong(5, "lawful when (((((^1");
        Due.ruleFine("lawful when (((not 1)));");
    }

    private static void takesEffect() {
        String land = TWO + "way a b 2;good g hours 1;good h hours 1;person p at a makes g wants h 4;person q at b makes h;";
        Doc.says("Terms 1", "Without a FAULT it is the LAND from then on (THINGS, CLOCKS, LIFTED are as at first; the RULE stays),");
        OwnMade x = Due.told(land);
        Due.rule(x, "lawful when free;");
        x.make(0, -1, 0, 0);
        x.lifted(0, true);
        x.go(0, 1);
        Due.is("with one at the end", Due.land(x, land + "place"), 1 + 16 * (land.length() + 5));
        Due.is("thing, clock, place, lifted stay", x.count(3) * 1000 + x.person(0, 2) * 100 + x.person(0, 1) * 10 + x.lawful(0, 1, 0), 1311);
        Due.is("the land stays", x.count(0) * 100 + x.count(1) * 10 + x.count(2), 222);
        Due.is("none", Due.land(x, land), 0);
        Due.is("thing, clock, place are as at first", x.count(3) * 100 + x.person(0, 2) * 10 + x.person(0, 1), 0);
        Due.is("the rule stays", x.count(5), 1);
        x.make(0, -1, 0, 0);
        Due.is("nothing is lifted", x.lawful(0, 1, 0), 0);
        Due.is("an empty one", x.land(), 0);
        Due.is("is one, too", x.count(0) + x.count(1) + x.count(2) + x.count(3), 0);
        Due.is("the rule stays still", x.count(5), 1);

        Doc.says("Terms 1", "the RULE from then on.");
        OwnMade y = giver("1");
        Due.is("without a line", y.lawful(0, 1, 0), 1);
        Due.rule(y, "lawful when 0;");
        Due.is("from then on", y.lawful(0, 1, 0), 0);
        Due.is("with a FAULT", Due.rule(y, "lawful when 1;lawful"), 1 + 16 * 20);
        Due.is("it stays", y.lawful(0, 1, 0) * 10 + y.count(5), 1);
        Due.is("the empty one", y.rule(), 0);
        Due.is("is one, too", y.lawful(0, 1, 0) * 10 + y.count(5), 10);
    }

    private static void lawful() {
        Doc.says("Terms 1", "LAWFUL is a gift if one of the RULE's E is not 0; without a line: if own is 1 or free is.");
        so("0;lawful when 0;lawful when 0;lawful when 0;lawful when 0;lawful when 0", false);
        so("1;lawful when 0;lawful when 0;lawful when 0;lawful when 0;lawful when 0", true);
        so("0;lawful when 0;lawful when 0;lawful when 0;lawful when 0;lawful when 0 - 1", true);
        so("0;lawful when 0;lawful when 2;lawful when 0;lawful when 0;lawful when 0", true);
        so("1 - 1", false);
        OwnMade x = Due.told("place a;good g hours 1;person p at a makes g;person q at a makes;");
        x.make(0, -1, 0, 0);
        x.make(0, 1, 0, 0);
        Due.is("own", x.lawful(0, 1, 0), 1);
        Due.is("not own, not free", x.lawful(0, 1, 1), 0);
        x.lifted(0, true);
        Due.is("not own, but free", x.lawful(0, 1, 1), 1);
        Due.is("both", x.lawful(0, 1, 0), 1);
        Due.rule(x, "lawful when 0;");
        Due.is("with a line neither is enough", x.lawful(0, 1, 0) + x.lawful(0, 1, 1), 0);
    }

    // ---- promises 1 to 8 ----

    private static void newObject() {
        Doc.says("Promise 1", "No LAND, an empty RULE.");
        OwnMade x = new OwnMade();
        for (int what = 0; what <= 7; what++) {
            Due.is("count " + what, x.count(what), 0);
        }
        Due.is("no place, good, person", x.way(0, 0) + x.good(0, 0) + x.person(0, 0), -3);
        Due.is("told", Due.land(x, "place a;good g hours 1;person p at a makes g;person q at a makes;"), 0);
        Due.is("a place, a good, a person", x.way(0, 0) + x.good(0, 0) + x.person(0, 0), 1);
        Due.is("an empty rule: own", x.make(0, -1, 0, 0) * 10 + x.lawful(0, 1, 0), 1);
    }

    private static long sign(char c, int place) {
        return (long) c << 56 - 8 * place;
    }

    private static void feed() {
        Doc.says("Promise 2", "Up to 24 signs come behind the TAPE:");
        Due.is("none", new OwnMade().feed(0, 0, 0), 0);
        Due.is("one", new OwnMade().feed(sign('a', 0), 0, 0), 1);
        long eight = Due.eight("aaaaaaaa", 0);
        Due.is("23", new OwnMade().feed(eight, eight, eight & ~255L), 23);
        Due.is("24", new OwnMade().feed(eight, eight, eight), 24);
        OwnMade behind = new OwnMade();
        Due.is("first", behind.feed(Due.eight("place", 0), 0, 0), 5);
        Due.is("behind it", behind.feed(Due.eight(" ab;", 0), 0, 0), 9);
        Due.is("they are one text", behind.land() * 10 + behind.count(0), 1);

        Doc.says("Promise 2", "the bytes of a, b, c, of each the highest first;");
        for (int place = 0; place < 8; place++) {
            for (char sign : new char[] {10, 32, 'z', 126}) {
                Due.is("in a", new OwnMade().feed(sign(sign, place), 0, 0), 1);
                Due.is("in b", new OwnMade().feed(0, sign(sign, place), 0), 1);
                Due.is("in c", new OwnMade().feed(0, 0, sign(sign, place)), 1);
            }
        }
        OwnMade order = new OwnMade();
        order.feed(Due.eight("place ab", 0), Due.eight("cdefgh;p", 0), Due.eight("lace hg;", 0));
        Due.is("abcdefgh and hg", order.land() * 10 + order.count(0), 2);
        OwnMade wrong = new OwnMade();
        wrong.feed(Due.eight("cdefgh;p", 0), Due.eight("place ab", 0), Due.eight("lace hg;", 0));
        Due.is("b before a", wrong.land(), 1);

        Doc.says("Promise 2", "others than 10 and 32 .. 126, and what is beyond 1,000, are left out:");
        Due.is("9, 10, 11, 31, 32, 126, 127, 128", new OwnMade().feed(0x090a0b1f207e7f80L, 0, 0), 3);
        Due.is("0 and 255", new OwnMade().feed(0x00ff00ff00ff00ffL, -1, Long.MIN_VALUE), 0);
        Due.is("all bits but one", new OwnMade().feed(Long.MAX_VALUE, 0x7eL - 256, 0x1fL), 1);
        OwnMade full = new OwnMade();
        Due.is("976", Due.feed(full, " ".repeat(976)), 976);
        Due.is("just full", full.feed(Due.eight("        ", 0), Due.eight("        ", 0), Due.eight("place a;", 0)), 1000);
        Due.is("all were taken", full.land() * 10 + full.count(0), 1);
        Due.feed(full, " ".repeat(977));
        Due.is("one too many", full.feed(Due.eight("        ", 0), Due.eight("        ", 0), Due.eight("place a;", 0)), 1000);
        Due.is("the last one is left out", full.land(), 1 + 16 * 1000);
        Due.feed(full, " ".repeat(999));
        Due.is("one finds room, behind others that are left out", full.feed(0x0001020304050607L, 0x7f80000000000020L, 0x2020202020202020L), 1000);
        Due.is("so it is read", full.land(), 0);

        Doc.says("Promise 2", "how many there are.");
        OwnMade many = new OwnMade();
        Due.is("3", many.feed(0, 0, 0x616263L), 3);
        Due.is("3 still", many.feed(0, 0, 0), 3);
        Due.is("27", many.feed(eight, eight, eight), 27);
        Due.is("count", many.count(6), 27);
    }

    private static void landAndRule() {
        String land = "place a;good g hours 1;person p at a makes g;person q at a makes;";
        Doc.says("Promise 3", "The TAPE is read as a LAND: 0, or its FAULT (all stays then).");
        OwnMade x = new OwnMade();
        Due.is("empty", x.land(), 0);
        Due.is("a land", Due.land(x, land), 0);
        x.make(0, -1, 0, 0);
        x.mark(3, false);
        x.lifted(0, true);
        x.make(0, -1, 0, 0);
        Due.is("a fault in its last token", Due.land(x, "place z;place y;place"), 1 + 16 * 21);
        Due.is("land", x.count(0) * 100 + x.count(1) * 10 + x.count(2), 112);
        Due.is("things, clock", x.count(3) * 10 + x.person(0, 2), 22);
        Due.is("lifted", Due.rule(x, "lawful when free;") * 10 + x.lawful(0, 1, 0), 1);
        Due.is("marks", x.mark(3, true), true);
        Due.is("a rule is no land", Due.land(x, "lawful when own;"), 1);
        Due.is("it was taken from the tape", x.count(6), 0);

        Doc.says("Promise 4", "The TAPE is read as the RULE: 0, or its FAULT (it stays then).");
        Due.is("a rule", Due.rule(x, "lawful when 0;lawful when 0;"), 0);
        Due.is("a fault in its last token", Due.rule(x, "lawful when 1"), 1 + 16 * 13);
        Due.is("two lines", x.count(5) * 10 + x.lawful(0, 1, 0), 20);
        Due.is("a land is no rule", Due.rule(x, land), 1);
        Due.is("two lines still", x.count(5), 2);
        Due.is("empty", x.rule() + x.count(5), 0);
    }

    private static void way() {
        OwnMade x = Due.told(PLACES + "way a b 24;way b c 24;way c d 24;");
        Doc.says("Promise 5", "HOURS of the shortest way between two PLACES;");
        Due.is("one", x.way(0, 1), 24);
        Due.is("through two others", x.way(3, 0), 72);
        Due.is("to itself", x.way(0, 0), 0);
        Due.is("to itself, where no way is", x.way(4, 4), 0);
        OwnMade y = Due.told(PLACES + "way a b 3;way b c 3;way a c 7;way c d 1;way d e 1;way a e 8;");
        Due.is("6 before 7", y.way(0, 2), 6);
        Due.is("8 as well as 8", y.way(0, 4), 8);
        OwnMade z = Due.told("place a;place b;place c;way b a 2;way c a 3;");
        Due.is("through the first one", z.way(1, 2) * 10 + z.way(2, 1), 55);
        Due.is("7 before 9", y.way(0, 3), 7);
        Doc.says("Promise 5", "NONE: others, none.");
        Due.is("none", x.way(0, 4), -1);
        Due.is("none back", x.way(4, 3), -1);
        for (int other : Due.others(4)) {
            Due.is("other", x.way(other, 0), -1);
            Due.is("other", x.way(0, other), -1);
            Due.is("others", x.way(other, other), -1);
        }
    }

    private static final String LAND = TWO + GOODS.replace("good k hours 1", "good k hours 24 from f j")
            + "person p at b makes k f wants k 999 998 wants g 5;person q at a makes f;";

    private static void good() {
        OwnMade x = Due.told(LAND);
        Doc.says("Promise 6", "Of a GOOD, what 0: HOURS, 1: GOODS that go into it as bits, 2: PEOPLE who make it as bits;");
        Due.is("hours", x.good(5, 0) * 100 + x.good(0, 0), 2401);
        Due.is("from", x.good(5, 1) * 100 + x.good(0, 1), 1700);
        Due.is("makers", x.good(5, 2) * 100 + x.good(0, 2) * 10 + x.good(1, 2), 130);
        Doc.says("Promise 6", "NONE: others.");
        for (int other : Due.others(5)) {
            Due.is("good " + other, x.good(other, 0), -1);
        }
        for (int other : Due.others(2)) {
            Due.is("what " + other, x.good(0, other), -1);
        }
        Due.is("fewer goods", Due.told("good g hours 1;").good(1, 0), -1);
    }

    private static void worth() {
        OwnMade x = Due.told(LAND);
        Doc.says("Promise 7", "The k-th worth (0 to 2) of a GOOD to one (0 if not wanted, not told);");
        Due.is("first", x.worth(0, 5, 0), 999);
        Due.is("second", x.worth(0, 5, 1), 998);
        Due.is("third, not told", x.worth(0, 5, 2), 0);
        Due.is("first", x.worth(0, 1, 0), 5);
        Due.is("second, not told", x.worth(0, 1, 1), 0);
        Due.is("not wanted", x.worth(0, 0, 0) + x.worth(1, 5, 0), 0);
        Doc.says("Promise 7", "NONE: others.");
        for (int other : Due.others(2)) {
            Due.is("k " + other, x.worth(0, 5, other), -1);
        }
        for (int other : Due.others(5)) {
            Due.is("good " + other, x.worth(0, other, 0), -1);
        }
        for (int other : Due.others(1)) {
            Due.is("person " + other, x.worth(other, 0, 0), -1);
        }
    }

    private static void person() {
        OwnMade x = Due.told(LAND + "way a b 1;");
        Doc.says("Promise 8", "Of one, what 0: HOME, 1: the PLACE now, 2: the CLOCK, 3: HAPPY, 4: how many THINGS are held, 5: GOODS made as bits;");
        Due.is("at first", x.person(0, 0) * 1000 + x.person(0, 1) * 100 + x.person(0, 2) * 10 + x.person(0, 3) + x.person(0, 4), 1100);
        Due.is("nothing can be made of nothing", x.make(0, -1, 5, 0), 3);
        Due.is("makes", x.person(0, 5) * 100 + x.person(1, 5), 3301);
        Due.is("a g, which q makes not", x.make(1, -1, 1, 0), 3);
        Due.is("an f each", x.make(0, -1, 0, 0) + x.make(1, -1, 0, 0), 0);
        Due.is("gone", x.go(0, 0), 0);
        Due.is("then", x.person(0, 0) * 1000 + x.person(0, 1) * 100 + x.person(0, 2) * 10 + x.person(0, 4), 1021);
        Due.is("f makes nobody happy", x.person(0, 3) + x.person(1, 3), 0);
        Doc.says("Promise 8", "NONE: others.");
        for (int other : Due.others(5)) {
            Due.is("what " + other, x.person(0, other), -1);
        }
        for (int other : Due.others(1)) {
            Due.is("person " + other, x.person(other, 0), -1);
        }
    }
}
