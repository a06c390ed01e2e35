import java.util.Random;

/** Random lands, rules and calls: OwnMade answers what Plain answers. */
final class PlainTest {
    private static final String LETTERS = "abcdefghijklm";
    private static final String[] FACTS = {"own", "part", "sort", "door", "hours", "away", "good", "free"};

    private final Random random;
    private final Both both = new Both();
    private final OwnMade x = both.x;
    private int places;
    private int goods;
    private int people;
    // whether this run's lands are such that there are many ROUNDS
    private boolean rich;

    private PlainTest(long seed) {
        random = new Random(seed);
    }

    public static void main(String[] args) {
        int runs = args.length > 0 ? Integer.parseInt(args[0]) : 250;
        for (int seed = 0; seed < runs; seed++) {
            new PlainTest(seed).run();
        }
        Due.end("PlainTest");
    }

    private void run() {
        int calls = 0;
        rich = !chance(3);
        tell(landText(), true);
        if (chance(3)) {
            tell(ruleText(), false);
        }
        for (int i = rich ? 40 : 0; i > 0; i--) {
            both.compare(makeCall());
        }
        while (calls < 300) {
            calls++;
            if (calls % 100 == 1) {
                everySet();
            }
            if (chance(150)) {
                tell(chance(2) ? landText() : spoilt(landText()), true);
            } else if (chance(100)) {
                tell(chance(2) ? ruleText() : spoilt(ruleText()), false);
            } else {
                String call = random.nextInt(100) < (rich ? 20 : 55) ? weekCall() : askCall();
                both.compare(call);
            }
        }
        faults();
    }

    private void everySet() {
        for (int set = 0; set < 1 << people; set++) {
            both.compare("round " + set);
            both.compare("length " + set);
            for (int what = 0; what < 3; what++) {
                both.compare("most " + set + " " + what);
            }
        }
    }

    /** Texts with a sign or a word too many, too few or another: each must have the same FAULT. */
    private void faults() {
        for (int i = 0; i < 60; i++) {
            boolean land = chance(2);
            tell(spoilt(land ? landText() : ruleText()), land);
        }
    }

    private boolean chance(int of) {
        return random.nextInt(of) == 0;
    }

    private int upTo(int most) {
        return random.nextInt(most + 1);
    }

    /** Mostly one of so many, now and then another number. */
    private int near(int count) {
        return chance(25) ? random.nextInt(count + 4) - 2 : random.nextInt(Math.max(count, 1));
    }

    private int set() {
        return chance(25) ? random.nextInt(300) - 20 : random.nextInt(1 << people);
    }

    private int pair() {
        return people == 0 ? 0 : 1 << upTo(people - 1) | 1 << upTo(people - 1);
    }

    // ---- texts ----

    private void tell(String text, boolean land) {
        both.tell(text, land);
        places = x.count(0);
        goods = x.count(1);
        people = x.count(2);
    }

    private String landText() {
        StringBuilder text = new StringBuilder();
        int p = 1 + upTo(4);
        int g = rich ? 3 + upTo(3) : 1 + upTo(5);
        int n = rich ? 4 + upTo(4) : 1 + upTo(chance(2) ? 7 : 4);
        for (int i = 0; i < p; i++) {
            text.append("place p").append(LETTERS.charAt(i)).append(';');
        }
        for (int i = upTo(2 * p); i > 0 && p > 1; i--) {
            int a = upTo(p - 1);
            int b = (a + 1 + upTo(p - 2)) % p;
            text.append("way p").append(LETTERS.charAt(a)).append(" p").append(LETTERS.charAt(b)).append(' ')
                    .append(1 + upTo(chance(4) ? 23 : 5)).append(chance(3) ? " ;\n" : ";");
        }
        for (int i = 0; i < g; i++) {
            text.append("good g").append(LETTERS.charAt(i)).append(" hours ").append(1 + upTo(chance(4) ? 23 : 2));
            if (i > 0 && chance(4)) {
                text.append("from g").append(LETTERS.charAt(upTo(i - 1)));
            }
            text.append(';');
        }
        for (int i = 0; i < n && text.length() < 880; i++) {
            person(text, "n" + LETTERS.charAt(i), p, g);
        }
        return text.toString();
    }

    private void person(StringBuilder text, String name, int p, int g) {
        text.append("person ").append(name).append(" at p").append(LETTERS.charAt(upTo(p - 1))).append(" makes");
        boolean[] used = new boolean[6];
        for (int i = rich ? 1 + upTo(1) : upTo(4); i > 0; i--) {
            int good = upTo(g - 1);
            if (!used[good]) {
                text.append(" g").append(LETTERS.charAt(good));
            }
            used[good] = true;
        }
        boolean[] made = used;
        used = new boolean[6];
        for (int i = rich ? 1 + upTo(4) : upTo(5); i > 0; i--) {
            int good = upTo(g - 1);
            if (!used[good]) {
                int worth = upTo(rich && made[good] ? 3 : chance(5) ? 999 : 12);
                text.append(" wants g").append(LETTERS.charAt(good)).append(' ').append(worth);
                for (int k = upTo(2); k > 0; k--) {
                    worth = upTo(worth);
                    text.append(' ').append(worth);
                }
            }
            used[good] = true;
        }
        text.append(';');
    }

    private String ruleText() {
        StringBuilder text = new StringBuilder();
        for (int i = upTo(3); i > 0; i--) {
            text.append("lawful when ");
            expression(text, 0);
            text.append(chance(3) ? "\n;" : ";");
        }
        return text.toString();
    }

    private void expression(StringBuilder text, int depth) {
        part(text, depth);
        boolean tested = false;
        for (int i = upTo(3); i > 0; i--) {
            String[] all = {" and ", " or ", "+", "-", " * ", "<", "="};
            int which = upTo(tested ? 4 : 6);
            tested = which > 1 && (tested || which > 4);
            text.append(all[which]);
            part(text, depth);
        }
    }

    private void part(StringBuilder text, int depth) {
        if (depth < 4 && chance(4)) {
            text.append("not ");
            part(text, depth + 1);
        } else if (depth < 4 && chance(3)) {
            text.append('(');
            expression(text, depth + 1);
            text.append(')');
        } else if (chance(3)) {
            text.append(upTo(chance(4) ? 9999 : 5));
        } else {
            text.append(FACTS[upTo(7)]);
        }
    }

    private String spoilt(String text) {
        StringBuilder spoilt = new StringBuilder(text);
        String[] more = {";", "(", ")", "not ", "7", " 25 ", " 12345 ", "place ", " good ", " wants ", "from ", "hours ",
            " pa ", " ga ", " gb ", " na ", "lawful ", "when ", "and ", "<", "=", "*", "?", "A", " abcdefghi ", "own ",
            "((((", "not not not ", "place zz;", "good zy hours 1;", "lawful when 1;", "  ", "makes ", "at "};
        for (int times = 1 + upTo(1); times > 0; times--) {
            int place = upTo(spoilt.length());
            int end = Math.min(spoilt.length(), place + upTo(chance(2) ? 1 : 6));
            if (chance(3)) {
                spoilt.delete(place, end);
            } else if (chance(4)) {
                for (int i = 1 + upTo(5); i > 0; i--) {
                    spoilt.insert(0, chance(2) ? "place x" + LETTERS.charAt(i) + ";" : "lawful when own;");
                }
            } else {
                spoilt.insert(place, more[upTo(more.length - 1)]);
            }
        }
        return spoilt.toString();
    }

    // ---- calls ----

    private String weekCall() {
        int kind = random.nextInt(20);
        if (kind < 9) {
            return makeCall();
        }
        if (kind < 11) {
            return "go " + near(people) + " " + near(places);
        }
        if (kind < 18) {
            int thing = near(Math.max(1, x.count(3)));
            int holder = thing >= 0 && thing < x.count(3) ? x.thing(thing, 3) : 0;
            return "give " + (chance(6) ? near(people) : holder) + " " + near(people) + " " + thing;
        }
        if (kind < 19) {
            return "lifted " + near(goods) + " " + upTo(1);
        }
        return "mark " + near(4) + " " + upTo(1);
    }

    /** Mostly of a GOOD that the maker makes. */
    private String makeCall() {
        int maker = near(people);
        int good = near(goods);
        for (int i = 0; i < 6 && maker >= 0 && maker < people; i++) {
            good = (good + 6) % 6;
            good = (x.person(maker, 5) >> good & 1) == 1 || chance(30) ? good : (good + 1) % 6;
        }
        return "make " + maker + " " + (chance(rich ? 9 : 4) ? near(people) : -1) + " " + good + " " + near(4);
    }

    private String askCall() {
        int thing = near(Math.max(1, x.count(3)));
        int holder = thing >= 0 && thing < x.count(3) && !chance(9) ? x.thing(thing, 3) : near(people);
        String[] calls = {
            "way " + near(places) + " " + near(places),
            "good " + near(goods) + " " + near(3),
            "worth " + near(people) + " " + near(goods) + " " + near(3),
            "person " + near(people) + " " + near(6),
            "thing " + thing + " " + near(5),
            "lawful " + holder + " " + near(people) + " " + thing,
            "round " + set(),
            "round " + pair(),
            "round " + (pair() | pair()),
            "length " + (pair() | pair() | pair()),
            "most " + set() + " " + near(3),
            "most " + ((1 << people) - 1) + " " + upTo(2),
            "at " + near(places),
            "length " + set(),
            places > 3 && people > 6 ? "visited" : "live " + (1 + upTo(5)) + " " + near(2),
            places > 3 && people > 6 ? "visited" : "beside " + (1 + upTo(3)) + " " + near(people) + " " + near(people),
            "had " + set(),
            "never " + set(),
            "fewest " + near(people) + " " + near(2),
            "fair " + near(places) + " " + (chance(9) ? near(168) : upTo(20)) + " " + upTo(5) + " " + near(2),
            "fairest " + (chance(9) ? near(168) : upTo(20)) + " " + (chance(9) ? near(99) : upTo(3)),
            "far " + near(people) + " " + near(goods) + " " + near(99) + " " + near(2),
            "far " + near(people) + " " + near(goods) + " " + upTo(4) + " " + upTo(1),
            "coin " + (near(goods + 1) - 1),
            "lift " + near(goods),
            "lie " + holder + " " + near(people) + " " + thing + " " + near(11) + " " + upTo(20) + " " + near(3),
            "years " + near(10000) + " " + near(53) + " " + near(2),
            "visited",
            "count " + near(8)};
        return calls[random.nextInt(calls.length)];
    }
}
