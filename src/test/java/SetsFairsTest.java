/** Promises 20 to 25: had, never, fewest, fair, fairest, far. */
final class SetsFairsTest {
    private static final String LAND = "place hill;place ford;place isle;way hill ford 3;"
            + "good flour hours 2;good oven hours 9;good bread hours 1 from flour oven;good cake hours 1 from bread;"
            + "good gold hours 1;"
            + "person ann at hill makes flour wants bread 20 5;"
            + "person bob at ford makes oven cake wants flour 3;"
            + "person cat at hill makes bread wants cake 7 wants flour 0;"
            + "person dan at isle makes flour oven bread wants oven 5;"
            + "person eve at isle makes wants gold 1;";

    public static void main(String[] args) {
        had();
        never();
        fewest();
        fair();
        fairMost();
        fairest();
        far();
        Due.end("SetsFairsTest");
    }

    private static void had() {
        OwnMade x = Due.told(LAND);
        Due.is("nobody", x.had(0), 0);
        Due.is("flour", x.had(1), 1);
        Due.is("oven, no bread for the cake", x.had(2), 2);
        Due.is("no flour for the bread", x.had(4), 0);
        Due.is("no oven for the bread", x.had(5), 1);
        Due.is("cake through bread", x.had(7), 15);
        Due.is("one alone", x.had(8), 7);
        Due.is("two", x.had(10), 15);
        Due.is("no gold", x.had(31), 15);
        Due.is("no such set", x.had(32), -1);
        Due.is("no such set", x.had(-1), -1);
    }

    private static void never() {
        OwnMade x = Due.told(LAND);
        Due.is("nobody", x.never(0), 0);
        Due.is("bread", x.never(1), 4);
        Due.is("flour", x.never(2), 1);
        Due.is("cake; a worth of 0 is no want", x.never(4), 8);
        Due.is("all of the wants of both", x.never(6), 9);
        Due.is("none", x.never(7), 0);
        Due.is("none for dan", x.never(8), 0);
        Due.is("gold", x.never(16), 16);
        Due.is("gold with all", x.never(31), 16);
        Due.is("no such set", x.never(32), -1);
        Due.is("no such set", x.never(-1), -1);
    }

    private static void fewest() {
        OwnMade x = Due.told(LAND);
        Due.is("ann with dan", x.fewest(0, 0), 2);
        Due.is("ann with dan", x.fewest(0, 1), 9);
        Due.is("bob with ann needs bread, bob with dan not", x.fewest(1, 1), 10);
        Due.is("cat wants cake: ann, bob, cat before bob, cat, dan", x.fewest(2, 1), 7);
        Due.is("three", x.fewest(2, 0), 3);
        Due.is("dan alone", x.fewest(3, 0), 1);
        Due.is("dan alone", x.fewest(3, 1), 8);
        Due.is("eve never", x.fewest(4, 0), -1);
        Due.is("eve never", x.fewest(4, 1), -1);
        OwnMade y = Due.told("place a;good g hours 1;good h hours 1;person p at a makes g wants h 1;person q at a makes h wants g 1;");
        Due.is("all are needed", y.fewest(0, 0), 2);
        Due.is("all", y.fewest(1, 1), 3);
        OwnMade z = Due.told("place a;person p at a makes;person q at a makes;");
        Due.is("who wants nothing is enough", z.fewest(0, 1), 1);
        Due.is("the other one, too", z.fewest(1, 1), 2);
        Due.is("other one", x.fewest(5, 0), -1);
        Due.is("other one", x.fewest(-1, 0), -1);
        Due.is("other what", x.fewest(0, 2), -1);
        Due.is("other what", x.fewest(0, -1), -1);
    }

    private static void fair() {
        OwnMade x = Due.told(LAND);
        Due.is("those of the hill", x.fair(0, 5, 9, 1), 5);
        Due.is("6 hours there and back", x.fair(0, 6, 1, 1), 7);
        Due.is("paid for", x.fair(0, 6, 1, 0), -6);
        Due.is("99 an hour", x.fair(0, 168, 99, 0), -594);
        Due.is("for nothing", x.fair(0, 168, 0, 0), 0);
        Due.is("two come to the ford", x.fair(1, 6, 2, 0), -24);
        Due.is("nobody can come to the isle", x.fair(2, 168, 5, 1), 24);
        Due.is("nor pays", x.fair(2, 168, 5, 0), 0);
        x.go(0, 1);
        Due.is("from home, wherever one is", x.fair(0, 0, 1, 1), 5);
        Due.throwsNone("place", () -> x.fair(3, 5, 5, 0));
        Due.throwsNone("place", () -> x.fair(-1, 5, 5, 0));
        Due.throwsNone("hours", () -> x.fair(0, 169, 5, 0));
        Due.throwsNone("hours", () -> x.fair(0, -1, 5, 0));
        Due.throwsNone("price", () -> x.fair(0, 5, 100, 0));
        Due.throwsNone("price", () -> x.fair(0, 5, -1, 0));
        Due.throwsNone("what", () -> x.fair(0, 5, 5, 2));
        Due.throwsNone("what", () -> x.fair(0, 5, 5, -1));
    }

    private static OwnMade traders() {
        OwnMade x = Due.told("place a;place b;place c;way a b 2;way b c 2;good u hours 1;good v hours 1;"
                + "person p at a makes u wants v 30;person q at c makes v wants u 10;");
        x.make(0, -1, 0, 0);
        x.make(1, -1, 1, 0);
        return x;
    }

    private static void fairMost() {
        OwnMade x = traders();
        Due.is("both to b: 40 less 3 * 8", x.fair(1, 4, 3, 0), 16);
        Due.is("both", x.fair(1, 4, 3, 1), 3);
        Due.is("nobody", x.fair(1, 3, 3, 0), 0);
        Due.is("nobody", x.fair(1, 3, 3, 1), 0);
        Due.is("one to the other: 8 hours as well", x.fair(0, 8, 3, 0), 16);
        Due.is("alone at home", x.fair(0, 7, 3, 0), 0);
        Due.is("alone at home", x.fair(2, 7, 3, 1), 2);
        Due.rule(x, "lawful when door;");
        Due.is("door is 0 at a fair", x.fair(0, 8, 3, 0), -24);
    }

    private static void fairest() {
        OwnMade x = traders();
        Due.is("b, with few hours", x.fairest(4, 3), 1);
        Due.is("of equal ones the first", x.fairest(8, 3), 0);
        Due.is("none comes: the first", x.fairest(0, 3), 0);
        Due.is("too dear: it is best that nobody comes", x.fairest(4, 99), 0);
        Due.is("168, 99", x.fairest(168, 99), 0);
        Due.is("168, 0", x.fairest(168, 0), 0);
        OwnMade y = Due.told("place a;place b;place c;way a b 1;way b c 1;person p at a makes;person q at c makes;person r at c makes;");
        Due.is("below 0 all: c with 2 * 2", y.fairest(168, 1), 2);
        Due.is("hours", x.fairest(169, 3), -1);
        Due.is("hours", x.fairest(-1, 3), -1);
        Due.is("price", x.fairest(8, 100), -1);
        Due.is("price", x.fairest(8, -1), -1);
        Due.is("no place", new OwnMade().fairest(8, 1), -1);
    }

    private static void far() {
        OwnMade x = Due.told("place a;place b;place c;way a b 3;good g hours 1;good h hours 1;"
                + "person p at a makes g wants g 20 9 wants h 999;person q at b makes g h;"
                + "person r at a makes g;person s at c makes g;");
        Due.is("20 by 3", x.far(0, 0, 3, 0), 6);
        Due.is("6 there and back, and one at home", x.far(0, 0, 3, 1), 2);
        Due.is("20 by 4", x.far(0, 0, 4, 0), 5);
        Due.is("not so far", x.far(0, 0, 4, 1), 1);
        Due.is("999", x.far(0, 1, 1, 0), 999);
        Due.is("no way to c", x.far(0, 0, 1, 1), 2);
        Due.is("by 99", x.far(0, 1, 99, 0), 10);
        Due.is("not wanted", x.far(1, 0, 1, 0), 0);
        Due.is("at one's own place", x.far(2, 0, 1, 1), 1);
        Due.is("not oneself", x.far(1, 0, 1, 1), 0);
        x.go(0, 1);
        Due.is("from home", x.far(0, 0, 4, 1), 1);
        Due.is("one", x.far(4, 0, 1, 0), -1);
        Due.is("one", x.far(-1, 0, 1, 0), -1);
        Due.is("good", x.far(0, 2, 1, 0), -1);
        Due.is("good", x.far(0, -1, 1, 0), -1);
        Due.is("price", x.far(0, 0, 0, 0), -1);
        Due.is("price", x.far(0, 0, 100, 0), -1);
        Due.is("price", x.far(0, 0, -1, 0), -1);
        Due.is("what", x.far(0, 0, 1, 2), -1);
        Due.is("what", x.far(0, 0, 1, -1), -1);
    }
}
