import java.util.ArrayList;
import java.util.List;

/**
 * Every call with numbers from below the first to beyond the last one, where all is empty, where there is one of each,
 * and where all is full: 5 PLACES, 6 GOODS, 8 PEOPLE, 40 THINGS, 6 lines, 4 MARKS. OwnMade answers what Plain answers.
 */
final class FullBoundsTest {
    // an object is used for at most 512 calls
    private static final int MOST_CALLS = 512;
    private static final int[] ENDS = {Integer.MIN_VALUE, -1, 0, 1, Integer.MAX_VALUE};

    private final String land;
    private final String rule;
    private final List<String> week;
    private final int[] places;
    private final int[] goods;
    private final int[] people;
    private final int[] things;
    private final int[] sets;
    private Both both;
    private int calls;

    private FullBoundsTest(String land, String rule, List<String> week, int[] most) {
        this.land = land;
        this.rule = rule;
        this.week = week;
        places = around(most[0]);
        goods = around(most[1]);
        people = around(most[2]);
        things = around(most[3]);
        sets = around(1 << most[2]);
    }

    /** From below 0 to beyond so many, and the ends of all numbers. */
    private static int[] around(int count) {
        int[] numbers = new int[count + 6];
        for (int i = 0; i < count + 4; i++) {
            numbers[i] = i - 2;
        }
        numbers[count + 4] = Integer.MIN_VALUE;
        numbers[count + 5] = Integer.MAX_VALUE;
        return numbers;
    }

    public static void main(String[] args) {
        new FullBoundsTest("", "", List.of(), new int[] {0, 0, 0, 0}).run();
        new FullBoundsTest("place a;good g hours 24;person p at a makes g wants g 999 999 999;", "lawful when own;",
                List.of("make 0 -1 0 3"), new int[] {1, 1, 1, 1}).run();
        new FullBoundsTest(fullLand(), fullRule(), fullWeek(), new int[] {5, 6, 8, 40}).run();
        Due.end("FullBoundsTest");
    }

    private static String fullLand() {
        StringBuilder text = new StringBuilder("place a;place b;place c;place d;place e;way a b 1;way b c 24;way c d 2;way a d 20;"
                + "good f hours 1;good g hours 2;good h hours 1 from f;good i hours 1;good j hours 1 from h i;good k hours 3;");
        String[] rest = {"a makes f g wants i 9 5 1 wants k 8 wants j 999", "a makes i k wants f 7 7 7 wants g 3 1",
            "b makes h i wants k 4 4 wants g 9", "b makes k f wants i 6 6 6 wants h 2", "c makes g k wants f 5 5 wants j 1",
            "d makes i f wants g 8 3", "e makes wants f 1 1 1 wants k 0", "a makes f h j k g i wants h 9 wants i 4 4 4"};
        for (int i = 0; i < rest.length; i++) {
            text.append("person ").append((char) ('p' + i)).append(" at ").append(rest[i]).append(';');
        }
        return text.toString();
    }

    private static String fullRule() {
        return "lawful when own and not door;lawful when part and sort<2 and good=0;lawful when free;lawful when away=999 and hours<2;"
                + "lawful when own and(good+hours*2<7 or sort=3);lawful when ((((own))))and good=5-not 1;";
    }

    private static List<String> fullWeek() {
        List<String> week = new ArrayList<>();
        int[] makers = {0, 1, 3, 4, 5, 7};
        int[][] makes = {{0, 1}, {3, 5}, {5, 0}, {1, 5}, {3, 0}, {0, 5, 1, 3}};
        for (int i = 0; i < 34; i++) {
            int maker = i % makers.length;
            week.add("make " + makers[maker] + " -1 " + makes[maker][i / makers.length % makes[maker].length] + " " + i % 4);
        }
        // of p's f, with r's help at b; h by w; f, with w's help
        week.addAll(List.of("mark 3 0", "make 7 -1 2 0", "make 7 0 0 1", "go 0 1", "make 0 2 2 2", "lifted 5 1", "make 0 3 0 0", "go 3 2",
                "make 4 3 5 0", "mark 1 0", "make 1 7 3 0", "lifted 3 1", "go 7 3", "mark 2 0", "go 0 0", "mark 0 0"));
        return week;
    }

    private void renew() {
        both = new Both();
        both.tell(land, true);
        both.tell(rule, false);
        for (String call : week) {
            both.compare(call);
        }
        calls = (land.length() + 23) / 24 + (rule.length() + 23) / 24 + 2 + week.size();
    }

    private void ask(String call) {
        if (both == null || calls >= MOST_CALLS) {
            renew();
        }
        both.compare(call);
        calls++;
    }

    /** The name with every choice of the numbers. */
    private void askAll(String name, int[]... numbers) {
        if (numbers.length == 0) {
            ask(name);
            return;
        }
        int[][] rest = java.util.Arrays.copyOfRange(numbers, 1, numbers.length);
        for (int number : numbers[0]) {
            askAll(name + " " + number, rest);
        }
    }

    private void run() {
        int[] few = {-1, 0, 1, 2};
        renew();
        int all = (1 << both.x.count(2)) - 1;
        System.out.println(both.x.count(3) + " things, most " + both.x.most(all, 0) + " in " + both.x.most(all, 1) + " rounds of "
                + both.x.most(all, 2));
        askAll("way", places, places);
        askAll("good", goods, around(3));
        askAll("worth", people, goods, around(3));
        askAll("person", people, around(6));
        askAll("thing", things, around(5));
        askAll("lawful", people, people, things);
        askAll("count", around(8));
        askAll("round", sets);
        askAll("most", sets, few);
        askAll("length", sets);
        askAll("at", places);
        askAll("visited");
        askAll("live", around(9), few);
        askAll("beside", new int[] {0, 2, 3, 8, 9}, people, new int[] {0, 5, 7, 8});
        askAll("had", sets);
        askAll("never", sets);
        askAll("fewest", people, around(2));
        askAll("fair", places, new int[] {-1, 0, 1, 2, 47, 48, 168, 169}, new int[] {-1, 0, 1, 99, 100}, few);
        askAll("fairest", around(169), new int[] {-1, 0, 1, 99, 100});
        askAll("far", people, goods, new int[] {-1, 0, 1, 2, 99, 100}, few);
        askAll("coin", goods);
        askAll("lift", goods);
        askAll("lie", people, people, things, new int[] {5}, new int[] {7}, new int[] {0, 2});
        askAll("lie", new int[] {0, 1, 7}, new int[] {0, 7}, things, new int[] {-1, 0, 9, 10, 11}, new int[] {-1, 0, 9999, 10000}, few);
        askAll("years", new int[] {-1, 0, 9999, 10000}, new int[] {-1, 0, 1, 2, 51, 52, 53}, few);
        change();
    }

    /** What changes the state; each time a MARK is gone back to. */
    private void change() {
        both = null;
        for (int mark : around(4)) {
            askAll("mark " + mark, new int[] {1, 0, 1});
            ask("count 3");
            ask("count 7");
        }
        both = null;
        for (int person : people) {
            ask("mark 0 1");
            askAll("make " + person, people, goods, new int[] {-1, 0, 3, 4});
            ask("mark 3 1");
            askAll("make " + person, people, goods, new int[] {3});
            askAll("go " + person, places);
            ask("mark 0 1");
            askAll("give " + person, people, things);
            askAll("go " + person, places);
            askAll("give " + person, people, things);
        }
        both = null;
        for (int good : goods) {
            for (int yes = 1; yes >= 0; yes--) {
                ask("lifted " + good + " " + yes);
                ask("most " + ((1 << people.length - 6) - 1) + " 0");
                ask("lift " + good);
            }
        }
        for (int end : ENDS) {
            ask("feed " + (end == 0 ? Long.MIN_VALUE : end == 1 ? Long.MAX_VALUE : end) + " " + end + " " + -end);
            ask("count 6");
        }
    }
}
