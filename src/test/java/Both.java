import java.util.NoSuchElementException;

/** An object of each, told the same: OwnMade is to answer what Plain answers. */
final class Both {
    final OwnMade x = new OwnMade();
    private final Plain y = new Plain();
    private final StringBuilder story = new StringBuilder();

    void tell(String text, boolean land) {
        for (int i = 0; i < text.length(); i += 24) {
            compare("feed " + Due.eight(text, i) + " " + Due.eight(text, i + 8) + " " + Due.eight(text, i + 16));
        }
        compare(land ? "land" : "rule");
    }

    /** A call is its name and its numbers, a boolean being 1 or 0. */
    void compare(String call) {
        String[] words = call.split(" ");
        long[] a = new long[7];
        for (int i = 1; i < words.length; i++) {
            a[i - 1] = Long.parseLong(words[i]);
        }
        String got = answer(words[0], a, true);
        String want = answer(words[0], a, false);
        story.append(call).append(" -> ").append(got).append('\n');
        Due.is(call, got.equals(want) ? 1 : 0, 1);
        if (!got.equals(want)) {
            System.out.println("got " + got + ", due is " + want + (story.length() < 6000 ? " behind\n" + story : ""));
        }
    }

    private String answer(String name, long[] n, boolean real) {
        try {
            return "" + (name.equals("feed")
                    ? real ? x.feed(n[0], n[1], n[2]) : y.feed(n[0], n[1], n[2])
                    : ask(name, (int) n[0], (int) n[1], (int) n[2], n, real));
        } catch (NoSuchElementException e) {
            return "none such";
        }
    }

    private int ask(String name, int a, int b, int c, long[] n, boolean real) {
        int d = (int) n[3];
        int e = (int) n[4];
        int f = (int) n[5];
        switch (name) {
            case "land": return real ? x.land() : y.land();
            case "rule": return real ? x.rule() : y.rule();
            case "way": return real ? x.way(a, b) : y.way(a, b);
            case "good": return real ? x.good(a, b) : y.good(a, b);
            case "worth": return real ? x.worth(a, b, c) : y.worth(a, b, c);
            case "person": return real ? x.person(a, b) : y.person(a, b);
            case "make": return real ? x.make(a, b, c, d) : y.make(a, b, c, d);
            case "go": return real ? x.go(a, b) : y.go(a, b);
            case "give": return real ? x.give(a, b, c) : y.give(a, b, c);
            case "thing": return real ? x.thing(a, b) : y.thing(a, b);
            case "lawful": return real ? x.lawful(a, b, c) : y.lawful(a, b, c);
            case "round": return real ? x.round(a) : y.round(a);
            case "most": return real ? x.most(a, b) : y.most(a, b);
            case "at": return real ? x.at(a) : y.at(a);
            case "length": return real ? x.length(a) : y.length(a);
            case "live": return real ? x.live(a, b) : y.live(a, b);
            case "beside": return real ? x.beside(a, b, c) : y.beside(a, b, c);
            case "had": return real ? x.had(a) : y.had(a);
            case "never": return real ? x.never(a) : y.never(a);
            case "fewest": return real ? x.fewest(a, b) : y.fewest(a, b);
            case "fair": return real ? x.fair(a, b, c, d) : y.fair(a, b, c, d);
            case "fairest": return real ? x.fairest(a, b) : y.fairest(a, b);
            case "far": return real ? x.far(a, b, c, d) : y.far(a, b, c, d);
            case "coin": return real ? x.coin(a) : y.coin(a);
            case "lifted": return real ? x.lifted(a, b == 1) ? 1 : 0 : y.lifted(a, b == 1);
            case "lift": return real ? x.lift(a) : y.lift(a);
            case "lie": return real ? x.lie(a, b, c, d, e, f) : y.lie(a, b, c, d, e, f);
            case "years": return real ? x.years(a, b, c) : y.years(a, b, c);
            case "visited": return real ? x.visited() : y.visited();
            case "mark": return real ? x.mark(a, b == 1) ? 1 : 0 : y.mark(a, b == 1);
            case "count": return real ? x.count(a) : y.count(a);
            default: throw new IllegalStateException(name);
        }
    }
}
