/** Promises 14 to 19 and 31: round, most, at, length, live, beside, visited. */
final class RoundsTest {
    public static void main(String[] args) {
        two();
        three();
        fiveAndSix();
        best();
        lawOfRounds();
        fewestRounds();
        fewestPeople();
        laterRings();
        wrongSets();
        at();
        live();
        liveApart();
        visited();
        Due.end("RoundsTest");
    }

    /** A land of one place a, goods u to z of an hour, and these people; each makes one of each good he makes. */
    private static OwnMade made(String people) {
        OwnMade x = Due.told("place a;place b;good u hours 1;good v hours 1;good w hours 1;good x hours 1;"
                + "good y hours 1;good z hours 1;" + people);
        for (int i = 0; i < x.count(2); i++) {
            for (int good = 0; good < 6; good++) {
                if ((x.person(i, 5) >> good & 1) == 1) {
                    Due.is("made", x.make(i, -1, good, 0), 0);
                }
            }
        }
        return x;
    }

    private static void two() {
        OwnMade x = made("person p at a makes u wants v 5 3;person q at b makes v wants u 4;person r at a makes;");
        Due.is("apart, and as if at one place", x.round(3), 9);
        Due.is("not with a third", x.round(7), -1);
        Due.is("not with the third alone", x.round(5), -1);
        Due.is("not alone", x.round(1), -1);
        Due.is("not nobody", x.round(0), -1);
        Due.is("worth", x.most(7, 0), 9);
        Due.is("rounds", x.most(7, 1), 1);
        Due.is("people", x.most(7, 2), 2);
        Due.is("length", x.length(7), 2);
        Due.is("length", x.length(3), 2);
        Due.is("no length", x.length(6), -1);
        x.make(1, -1, 1, 0);
        x.rule();
        Due.is("two are there, one is given", x.round(3), 9);
    }

    private static void three() {
        OwnMade x = made("person p at a makes u wants v 5;person q at a makes v wants w 6;person r at a makes w wants u 7;");
        Due.is("p to r to q to p", x.round(7), 18);
        Due.is("no two", x.round(3), -1);
        Due.is("no two", x.round(5), -1);
        Due.is("no two", x.round(6), -1);
        OwnMade w = made("person p at a makes u wants u 1 wants v 5;person q at a makes v wants v 2 wants w 6;"
                + "person r at a makes w wants w 4 wants u 7;");
        Due.is("each less what is given: 4, 4, 3", w.round(7), 11);
        Due.is("length", x.length(7), 3);
        Due.is("worth", x.most(7, 0), 18);
        Due.is("rounds", x.most(7, 1), 1);
        Due.is("people", x.most(7, 2), 3);
        OwnMade y = made("person p at a makes u wants w 5;person q at a makes v wants u 6;person r at a makes w wants v 7;");
        Due.is("the other way round", y.round(7), 18);
    }

    private static void fiveAndSix() {
        String[] makes = {"u", "v", "w", "x", "y", "z"};
        for (int n = 4; n <= 6; n++) {
            StringBuilder people = new StringBuilder();
            for (int i = 0; i < n; i++) {
                people.append("person p").append((char) ('a' + i)).append(" at a makes ").append(makes[i])
                        .append(" wants ").append(makes[(i + 1) % n]).append(' ').append(i + 1).append(';');
            }
            OwnMade x = made(people.toString());
            int all = (1 << n) - 1;
            Due.is("a ring of " + n, x.round(all), n == 6 ? -1 : n * (n + 1) / 2);
            Due.is("most of " + n, x.most(all, 0), n == 6 ? 0 : n * (n + 1) / 2);
            Due.is("people of " + n, x.most(all, 2), n == 6 ? 0 : n);
            Due.is("length of " + n, x.length(all), n == 6 ? -1 : n);
        }
    }

    /** Each must be HAPPIER; of all rings and THINGS the best. */
    private static void best() {
        OwnMade x = made("person p at a makes u wants u 5 wants v 5;person q at a makes v wants u 9;");
        Due.is("not happier", x.round(3), -1);
        OwnMade y = made("person p at a makes u wants u 5 wants v 6;person q at a makes v wants u 9;");
        Due.is("happier by one", y.round(3), 10);
        OwnMade z = made("person p at a makes u w wants v 5 wants x 3;person q at a makes v x wants u 4 wants w 7 wants v 3;");
        Due.is("w for v: 5 + 7 - 3, w for x: 3 + 7", z.round(3), 10);
        OwnMade s = made("person p at a makes u w wants v 5;person q at a makes v x wants u 4 wants w 7 wants v 3;");
        Due.is("w for v", s.round(3), 9);
        OwnMade t = made("person p at a makes u wants v 9 2;person q at a makes v wants u 1;");
        t.make(1, -1, 1, 0);
        Due.is("the first one", t.round(3), 10);
        Due.is("given and given", t.give(0, 1, 0) + t.give(1, 0, 1), 0);
        Due.is("u is not one's own to give now", t.round(3), -1);
        t.make(0, -1, 0, 0);
        Due.is("a second u is worth nothing to q", t.round(3), -1);
        OwnMade r = made("person p at a makes u wants u 3 3 wants v 4;person q at a makes v wants u 9;");
        r.make(0, -1, 0, 0);
        Due.is("the last one is given, worth 3", r.round(3), 10);
    }

    private static void lawOfRounds() {
        OwnMade x = Due.told("place a;place b;way a b 3;good u hours 1;good v hours 1;"
                + "person p at a makes u wants v 5;person q at b makes v wants u 4;person r at a makes;");
        x.make(0, 2, 0, 1);
        x.make(1, -1, 1, 0);
        Due.is("made with another one", x.round(3), -1);
        x.lifted(0, true);
        Due.is("lifted", x.round(3), 9);
        x.lifted(0, false);
        Due.is("not lifted any more", x.most(3, 0), 0);
        Due.rule(x, "lawful when part;");
        Due.is("part is enough", x.round(3), 9);
        Due.rule(x, "lawful when part and door;");
        Due.is("door is 0 in a round", x.round(3), -1);
        Due.is("door is 0", x.most(7, 0), 0);
        Due.is("door is 0", x.length(7), -1);
        Due.rule(x, "lawful when not door;");
        Due.is("door is not 1", x.round(3), 9);
        Due.rule(x, "lawful when away = 3;");
        Due.is("homes are 3 hours apart", x.round(3), 9);
        Due.rule(x, "lawful when sort = 1;");
        Due.is("each gift is to be lawful", x.round(3), -1);
        x.make(0, -1, 0, 0);
        Due.rule(x, "lawful when sort = 0;");
        Due.is("one of two u is lawful", x.round(3), 9);
        Due.rule(x, "lawful when good = 0;");
        Due.is("v is not", x.round(3), -1);
        Due.rule(x, "lawful when hours = 1;");
        Due.is("all are", x.length(3), 2);
    }

    private static void fewestRounds() {
        String rest = "person q at a makes v wants u 5;person r at a makes w wants x 5 wants v ";
        String s = ";person s at a makes x wants w 5;";
        OwnMade x = made("person p at a makes u wants v 5 wants x 5;" + rest + "5" + ";person s at a makes x wants w 5;");
        // pairs p q, r s: 10 each; p u -> q v -> r w -> s x -> p: 5 each
        Due.is("two pairs or one ring", x.most(15, 0), 20);
        Due.is("one ring is fewer", x.most(15, 1), 1);
        Due.is("of four", x.most(15, 2), 4);
        OwnMade y = made("person p at a makes u wants v 5 wants x 5;" + rest + "4" + s);
        Due.is("the ring is worth 19", y.round(15), 19);
        Due.is("two pairs", y.most(15, 0), 20);
        Due.is("two rounds", y.most(15, 1), 2);
        Due.is("four people", y.most(15, 2), 4);
        Due.is("half of them", y.most(7, 0), 10);
        Due.is("a pair of which one is not in the set", y.most(14, 0), 10);
        Due.is("others than pairs", y.most(5, 0), 0);
        Due.is("nobody", y.most(0, 0), 0);
        Due.is("nobody's rounds", y.most(0, 1), 0);
        Due.is("nobody is in them", y.most(0, 2), 0);
    }

    private static void fewestPeople() {
        // p and q: 10; p, q, r in a ring: 5 + 4 + 1
        OwnMade x = made("person p at a makes u wants v 5;person q at a makes v wants u 5 wants w 4;person r at a makes w wants u 1;");
        Due.is("ring", x.round(7), 10);
        Due.is("pair", x.round(3), 10);
        Due.is("worth", x.most(7, 0), 10);
        Due.is("one round", x.most(7, 1), 1);
        Due.is("the fewest people", x.most(7, 2), 2);
    }

    /** The same with a ring found later, and with fewer people in more rounds. */
    private static void laterRings() {
        OwnMade x = made("person p at a makes u x wants v 5 wants z 5;person q at a makes v wants w 4;"
                + "person r at a makes w wants u 1;person s at a makes z wants x 5;");
        Due.is("p q r", x.round(7), 10);
        Due.is("p s", x.round(9), 10);
        Due.is("worth", x.most(15, 0), 10);
        Due.is("one round", x.most(15, 1), 1);
        Due.is("of two", x.most(15, 2), 2);
        OwnMade y = made("person p at a makes u wants v 5 wants y 4;person q at a makes v wants u 5;"
                + "person r at a makes w wants x 5 wants v 4;person s at a makes x wants w 5;person t at a makes y wants x 2;");
        Due.is("p q", y.round(3), 10);
        Due.is("r s", y.round(12), 10);
        Due.is("five", y.round(31), 20);
        Due.is("worth", y.most(31, 0), 20);
        Due.is("one round", y.most(31, 1), 1);
        Due.is("of five", y.most(31, 2), 5);
        changes();
    }

    /** Whatever changes a ROUND is seen by the next call. */
    private static void changes() {
        String text = "place a;good g hours 1;good f hours 1 from g;good h hours 1;"
                + "person p at a makes g f wants h 4;person q at a makes h wants f 3;";
        OwnMade x = Due.told(text);
        Due.is("nothing", x.length(3), -1);
        Due.is("made", x.make(1, -1, 2, 0) + x.make(0, -1, 0, 0), 0);
        Due.is("g is not wanted", x.length(3), -1);
        Due.is("f is made of it", x.make(0, -1, 1, 0), 0);
        Due.is("used up before, then f", x.round(3), 7);
        Due.is("as at a", x.at(0), 7);
        Due.rule(x, "lawful when good = 1;");
        Due.is("h is not lawful", x.round(3), -1);
        Due.rule(x, "lawful when good = 1 or good = 2;");
        Due.is("both are", x.round(3), 7);
        x.mark(0, false);
        Due.is("given", x.give(0, 1, 2), 0);
        Due.is("that was it", x.round(3), -1);
        x.mark(0, true);
        Due.is("as it was", x.round(3), 7);
        Due.rule(x, "lawful when free;");
        x.lifted(1, true);
        Due.is("one is free", x.round(3), -1);
        x.lifted(2, true);
        Due.is("both are free", x.round(3), 7);
        Due.land(x, text);
        Due.is("a new land", x.round(3), -1);
        Due.is("with nothing", x.most(3, 0), 0);
    }

    private static void wrongSets() {
        OwnMade x = made("person p at a makes u wants v 5;person q at a makes v wants u 5;");
        for (int set : new int[] {-1, 4, 7, 256, Integer.MIN_VALUE, Integer.MAX_VALUE}) {
            Due.is("round of no set", x.round(set), -1);
            Due.is("most of no set", x.most(set, 0), -1);
            Due.is("length of no set", x.length(set), -1);
            Due.is("had in no set", x.had(set), -1);
            Due.is("never in no set", x.never(set), -1);
        }
        Due.is("other what", x.most(3, 3), -1);
        Due.is("other what", x.most(3, -1), -1);
        Due.is("length of nobody", x.length(0), -1);
        Due.is("at no place", x.at(2), -1);
        Due.is("at no place", x.at(-1), -1);
        Due.is("live of 0", x.live(0, 0), -1);
        Due.is("live of 9", x.live(9, 0), -1);
        Due.is("live -1", x.live(-1, 0), -1);
        Due.is("live what", x.live(2, 2), -1);
        Due.is("live what", x.live(2, -1), -1);
        Due.is("beside of 0", x.beside(0, 0, 1), -1);
        Due.is("beside of 9", x.beside(9, 0, 1), -1);
        Due.is("beside the same", x.beside(2, 1, 1), -1);
        Due.is("beside no such one", x.beside(2, 0, 2), -1);
        Due.is("beside no such one", x.beside(2, -1, 0), -1);
    }

    private static void at() {
        OwnMade x = made("person p at a makes u wants v 5;person q at a makes v wants u 4;person r at b makes w;");
        Due.is("both at home", x.at(0), 9);
        Due.is("one at b", x.at(1), 0);
        Due.rule(x, "lawful when door;");
        Due.is("at their doors", x.at(0), 9);
        Due.is("but a round as such is not", x.most(3, 0), 0);
        OwnMade y = Due.told("place a;place b;way a b 1;good u hours 1;good v hours 1;"
                + "person p at a makes u wants v 5;person q at b makes v wants u 4;");
        y.make(0, -1, 0, 0);
        y.make(1, -1, 1, 0);
        Due.is("apart", y.at(0) + y.at(1), 0);
        y.go(1, 0);
        Due.is("together", y.at(0), 9);
        Due.rule(y, "lawful when own and not door;");
        Due.is("p is at home", y.at(0), 0);
        Due.rule(y, "lawful when own and (door or good = 1);");
        Due.is("p at home gives, q gives v", y.at(0), 9);
        Due.rule(y, "lawful when own and (door or good = 0);");
        Due.is("q is not at home", y.at(0), 0);
        y.go(1, 1);
        y.go(0, 1);
        Due.is("but now", y.at(1), 9);
        Due.rule(y, "lawful when own and (door or good = 1);");
        Due.is("p is not at home now", y.at(1), 0);
        Due.is("nobody is there", y.at(0), 0);
    }

    private static void live() {
        // p and q: 10, q and r: 12, r and s: 9
        OwnMade x = made("person p at a makes u wants v 5;person q at a makes v x wants u 5 wants w 6;"
                + "person r at b makes w wants x 6 wants y 4;person s at b makes y wants w 5;");
        Due.is("p q", x.round(3), 10);
        Due.is("q r", x.round(6), 12);
        Due.is("r s", x.round(12), 9);
        Due.is("most", x.most(15, 0), 19);
        Due.is("no room for two places of one", x.live(1, 0), -1);
        Due.is("in twos", x.live(2, 0), 19);
        Due.is("on two places", x.live(2, 1), 2);
        Due.is("in threes", x.live(3, 0), 19);
        Due.is("on two places", x.live(3, 1), 2);
        Due.is("all on one", x.live(4, 0), 19);
        Due.is("on one place", x.live(4, 1), 1);
        Due.is("more than all", x.live(8, 1), 1);
        Due.is("p beside q", x.beside(2, 0, 1), 1);
        Due.is("p beside r", x.beside(2, 0, 2), 0);
        Due.is("r beside s", x.beside(2, 2, 3), 1);
        Due.is("s beside r", x.beside(2, 3, 2), 1);
        Due.is("q beside r, not with three at most", x.beside(3, 1, 2), 0);
        Due.is("q beside r with four", x.beside(4, 1, 2), 1);
        Due.is("no room", x.beside(1, 0, 1), -1);
    }

    /** The places of all told count, wherever homes and ways are; some best way is enough for beside. */
    private static void liveApart() {
        OwnMade x = made("person p at a makes u wants v 5;person q at a makes v wants u 5;person r at a makes;");
        Due.is("two and one", x.live(2, 0), 10);
        Due.is("on two", x.live(2, 1), 2);
        Due.is("r is alone", x.beside(2, 0, 2), 0);
        Due.is("three on one, or two and one", x.live(3, 1), 1);
        Due.is("r may be there", x.beside(3, 0, 2), 1);
        OwnMade y = Due.told("place a;place b;place c;good g hours 1;person p at a makes;person q at a makes;person r at a makes;");
        Due.is("nothing is to be had", y.live(1, 0), 0);
        Due.is("three places", y.live(1, 1), 3);
        Due.is("nobody beside another one", y.beside(1, 0, 1), 0);
        Due.is("two", y.live(2, 1), 2);
        Due.is("any two", y.beside(2, 0, 2), 1);
        OwnMade z = Due.told("place a;place b;place c;place d;place e;person p at a makes;person q at a makes;"
                + "person r at a makes;person s at a makes;person t at a makes;person u at a makes;"
                + "person v at a makes;person w at a makes;");
        Due.is("8 on 5 places of 1", z.live(1, 0), -1);
        Due.is("8 on 5 places of 2", z.live(2, 1), 4);
        Due.is("8 on 5 places of 3", z.live(3, 1), 3);
        Due.is("8 on one", z.live(8, 1), 1);
        Due.is("7 at most", z.live(7, 1), 2);
        OwnMade n = Due.told("place a;");
        Due.is("nobody lives", n.live(1, 0), -1);
    }

    private static void visited() {
        OwnMade x = made("person p at a makes u wants v 1;person q at a makes v wants u 1 wants w 1;"
                + "person r at a makes w wants v 9;person s at a makes x wants y 50;");
        Due.is("q with p and r", x.visited(), 1);
        OwnMade y = made("person p at a makes;person q at a makes v wants w 1;person r at a makes w wants v 9;");
        Due.is("the first of equal ones", y.visited(), 1);
        OwnMade z = made("person p at a makes;person q at a makes;");
        Due.is("nobody is visited: the first", z.visited(), 0);
        Due.is("nobody", new OwnMade().visited(), -1);
        OwnMade d = made("person p at a makes;person q at b makes v wants w 1;person r at a makes w wants v 9;");
        Due.rule(d, "lawful when own and not door;");
        Due.is("door is 0, and all as if at one place", d.visited(), 1);
        Due.rule(d, "lawful when own and door;");
        Due.is("none with door", d.visited(), 0);
    }
}
