/** Promises 26 to 30: coin, lifted, lift, lie, years. */
final class LawTest {
    public static void main(String[] args) {
        coin();
        lifted();
        lift();
        lie();
        lieWrong();
        years();
        yearsOfGoods();
        Due.end("LawTest");
    }

    private static void coin() {
        OwnMade x = Due.told("place a;place b;good g hours 1;good h hours 1;"
                + "person p at a makes g h wants g 3 1;person q at b makes wants g 9 2 2 wants h 4;person r at b makes wants g 2;");
        Due.is("nothing is held", x.coin(-1), 0);
        for (int i = 0; i < 3; i++) {
            x.make(0, -1, 0, 0);
        }
        // 3 and 1 now; 9, 3, 2 at the best
        Due.is("three g", x.coin(0), 10);
        x.make(0, -1, 0, 0);
        x.make(0, -1, 0, 0);
        x.make(0, -1, 0, 0);
        // six: 9, 3, 2, 2, 2, 1
        Due.is("six g", x.coin(0), 15);
        x.make(0, -1, 0, 0);
        Due.is("a seventh is worth nothing", x.coin(0), 15);
        Due.is("no h yet", x.coin(1), 0);
        x.make(0, -1, 1, 0);
        Due.is("one h", x.coin(1), 4);
        Due.is("all", x.coin(-1), 19);
        Due.rule(x, "lawful when 0;");
        Due.is("whatever the law is", x.coin(-1), 19);
        Due.is("no such good", x.coin(2), -1);
        Due.is("no such good", x.coin(-2), -1);
    }

    private static void lifted() {
        OwnMade x = Due.told("place a;good g hours 1;good h hours 1;person p at a makes g h;person q at a makes;");
        x.make(0, 1, 0, 0);
        x.make(0, 1, 1, 0);
        Due.is("not lawful", x.lawful(0, 1, 0), 0);
        Due.is("lifted", x.lifted(0, true), true);
        Due.is("lawful", x.lawful(0, 1, 0), 1);
        Due.is("the other is not", x.lawful(0, 1, 1), 0);
        Due.is("lifted, too", x.lifted(1, true), true);
        Due.is("both", x.lawful(0, 1, 0) + x.lawful(0, 1, 1), 2);
        Due.is("again", x.lifted(1, true), true);
        Due.is("not lifted", x.lifted(0, false), true);
        Due.is("one", x.lawful(0, 1, 0), 0);
        Due.is("the other", x.lawful(0, 1, 1), 1);
        Due.is("not lifted as before", x.lifted(0, false), true);
        Due.is("none such", x.lifted(2, true), false);
        Due.is("none such", x.lifted(-1, false), false);
    }

    private static void lift() {
        OwnMade x = Due.told("place a;good g hours 1;good h hours 1;good i hours 1;"
                + "person p at a makes g wants h 5;person q at a makes h wants g 4;person r at a makes i wants g 8;");
        x.make(0, 2, 0, 0);
        x.make(1, 2, 1, 0);
        x.make(2, -1, 2, 0);
        Due.is("h alone does not help", x.lift(1), 0);
        Due.is("g alone does not help", x.lift(0), 0);
        x.lifted(1, true);
        Due.is("g with h", x.lift(0), 9);
        Due.is("h with it or without: g is not lifted", x.lift(1), 0);
        x.lifted(0, true);
        Due.is("g as it is, against without", x.lift(0), 9);
        Due.is("h, too", x.lift(1), 9);
        Due.is("i is nobody's want", x.lift(2), 0);
        Due.is("it stays lifted", x.most(7, 0), 9);
        Due.rule(x, "lawful when not free;");
        Due.is("nothing is lawful so", x.most(7, 0), 0);
        x.lifted(0, false);
        x.lifted(1, false);
        Due.is("all is lawful so", x.most(7, 0), 9);
        Due.is("less by it", x.lift(0), -9);
        Due.rule(x, "lawful when own;");
        Due.is("no line asks whether it is free", x.lift(0), 0);
        Due.is("no such good", x.lift(3), -1);
        Due.is("no such good", x.lift(-1), -1);
    }

    private static OwnMade liars() {
        OwnMade x = Due.told("place a;place b;good g hours 1;good h hours 1;"
                + "person p at a makes g h wants g 4 2;person q at b makes wants g 10 3;person r at a makes g;");
        x.make(0, 2, 0, 0);
        x.make(0, 2, 1, 0);
        x.make(0, 2, 0, 0);
        x.make(0, -1, 0, 0);
        return x;
    }

    private static void lie() {
        OwnMade x = liars();
        // q is happier by 10, p less by nothing: a third one
        Due.is("never seen", x.lie(0, 1, 0, 0, 9999, 0), 10);
        Due.is("never seen", x.lie(0, 1, 0, 0, 9999, 1), 1);
        Due.is("no fine is enough", x.lie(0, 1, 0, 0, 0, 2), -1);
        Due.is("7 of ten * 10 less 3 of ten * 5", x.lie(0, 1, 0, 3, 5, 0), 11);
        Due.is("55 tenths", x.lie(0, 1, 0, 3, 5, 1), 2);
        Due.is("70 by 3, upwards", x.lie(0, 1, 0, 3, 5, 2), 24);
        Due.is("thirds come to 0", x.lie(0, 1, 0, 5, 10, 0), 0);
        Due.is("0 of 1", x.lie(0, 1, 0, 5, 10, 1), 1);
        Due.is("just that fine", x.lie(0, 1, 0, 5, 0, 2), 10);
        Due.is("below 0", x.lie(0, 1, 0, 9, 9999, 0), 10 - 9 * 9999);
        Due.is("tenths", x.lie(0, 1, 0, 9, 9999, 1), 10);
        Due.is("always seen", x.lie(0, 1, 0, 10, 9999, 0), -9999);
        Due.is("always seen", x.lie(0, 1, 0, 10, 9999, 1), 1);
        Due.is("no fine is needed then", x.lie(0, 1, 0, 10, 9999, 2), 0);
        Due.is("fifths", x.lie(0, 1, 0, 2, 1, 1), 5);
        Due.is("78 tenths", x.lie(0, 1, 0, 2, 1, 0), 39);
        Due.is("nobody wants h", x.lie(0, 1, 1, 4, 5, 0), -2);
        Due.is("nobody wants h", x.lie(0, 1, 1, 4, 5, 2), 0);
        Due.is("to r it is worth nothing, and p's third neither", x.lie(0, 2, 0, 4, 5, 0), -2);
        x.lifted(0, true);
        Due.is("p gives two", x.give(0, 2, 3) + x.give(0, 2, 2), 0);
        x.lifted(0, false);
        Due.is("p's first one now: 10 less 4", x.lie(0, 1, 0, 0, 0, 0), 6);
        Due.is("p's first one for nothing", x.lie(0, 2, 0, 0, 0, 0), -4);
        Due.is("no fine is needed", x.lie(0, 2, 0, 0, 0, 2), 0);
        Due.is("r gives p a second one", x.lie(2, 0, 2, 0, 0, 0), 2);
        Due.is("nothing was given", x.thing(0, 3), 0);
        OwnMade y = Due.told("place a;good g hours 1;person p at a makes g;person q at a makes wants g 999;");
        y.make(0, 1, 0, 0);
        Due.is("the dearest fine", y.lie(0, 1, 0, 1, 0, 2), 8991);
    }

    private static void lieWrong() {
        OwnMade x = liars();
        Due.throwsNone("lawful", () -> x.lie(0, 1, 3, 5, 5, 0));
        Due.throwsNone("not held", () -> x.lie(1, 0, 0, 5, 5, 0));
        Due.throwsNone("oneself", () -> x.lie(0, 0, 0, 5, 5, 0));
        Due.throwsNone("giver", () -> x.lie(3, 0, 0, 5, 5, 0));
        Due.throwsNone("giver", () -> x.lie(-1, 0, 0, 5, 5, 0));
        Due.throwsNone("receiver", () -> x.lie(0, 3, 0, 5, 5, 0));
        Due.throwsNone("receiver", () -> x.lie(0, -1, 0, 5, 5, 0));
        Due.throwsNone("thing", () -> x.lie(0, 1, 4, 5, 5, 0));
        Due.throwsNone("thing", () -> x.lie(0, 1, -1, 5, 5, 0));
        Due.throwsNone("chance", () -> x.lie(0, 1, 0, 11, 5, 0));
        Due.throwsNone("chance", () -> x.lie(0, 1, 0, -1, 5, 0));
        Due.throwsNone("fine", () -> x.lie(0, 1, 0, 5, 10000, 0));
        Due.throwsNone("fine", () -> x.lie(0, 1, 0, 5, -1, 2));
        Due.throwsNone("what", () -> x.lie(0, 1, 0, 5, 5, 3));
        Due.throwsNone("what", () -> x.lie(0, 1, 0, 5, 5, -1));
        Due.rule(x, "lawful when part;");
        Due.throwsNone("lawful now", () -> x.lie(0, 1, 0, 5, 5, 0));
        Due.rule(x, "lawful when own and not door;");
        Due.is("own, at the door", x.lie(0, 1, 3, 0, 0, 0), 10);
    }

    private static void years() {
        // each makes one GOOD: a draw below 1 is 0
        OwnMade x = Due.told("place a;good g hours 1;good h hours 1;person p at a makes g wants h 5;person q at a makes h wants g 4;");
        Due.is("each week", x.years(0, 1, 0), 9);
        Due.is("52 weeks", x.years(9999, 52, 0), 52 * 9);
        Due.is("never nothing", x.years(9999, 52, 1), 0);
        x.make(0, -1, 0, 0);
        x.make(0, -1, 0, 0);
        Due.is("all begin with nothing", x.years(1, 10, 0), 90);
        Due.is("things stay as they were", x.count(3), 2);
        Due.rule(x, "lawful when sort = 0 and own and part and not door and away = 0;");
        Due.is("made alone, sort 0, door 0", x.years(1, 10, 0), 90);
        Due.rule(x, "lawful when good = 1;");
        Due.is("g is not lawful", x.years(1, 10, 0), 0);
        Due.rule(x, "lawful when good = 0;");
        Due.is("h is not lawful", x.years(1, 10, 0), 0);
        Due.rule(x, "lawful when free;");
        Due.is("not free", x.years(1, 10, 0), 0);
        Due.is("ten weeks with 0", x.years(1, 10, 1), 10);
        x.lifted(0, true);
        x.lifted(1, true);
        Due.is("lifted as now", x.years(1, 10, 0), 90);
        Due.is("seed", x.years(10000, 1, 0), -1);
        Due.is("seed", x.years(-1, 1, 0), -1);
        Due.is("weeks", x.years(1, 0, 0), -1);
        Due.is("weeks", x.years(1, 53, 0), -1);
        Due.is("what", x.years(1, 1, 2), -1);
        Due.is("what", x.years(1, 1, -1), -1);
        Due.is("nobody", new OwnMade().years(0, 7, 1), 7);
    }

    /** The draws by the document's words, and who could trade so. */
    private static void yearsOfGoods() {
        OwnMade x = Due.told("place a;good g hours 1;good h hours 1;good i hours 1 from g h;"
                + "person p at a makes i g wants h 5;person n at a makes;person q at a makes i h g wants g 4;");
        for (int seed : new int[] {0, 1, 7, 4242, 9999}) {
            long g = seed;
            int sum = 0;
            int quiet = 0;
            for (int week = 0; week < 30; week++) {
                g = (g * 1103515245L + 12345L) % 2147483648L;
                int p = (int) (g / 65536 % 2);
                g = (g * 1103515245L + 12345L) % 2147483648L;
                int q = (int) (g / 65536 % 3);
                // p has g by 0, i by 1; q has g, h, i by 0, 1, 2: only g for h is a round
                sum += p == 0 && q == 1 ? 9 : 0;
                quiet += p == 0 && q == 1 ? 0 : 1;
            }
            Due.is("years of " + seed, x.years(seed, 30, 0), sum);
            Due.is("quiet weeks of " + seed, x.years(seed, 30, 1), quiet);
        }
    }
}
