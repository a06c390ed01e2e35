import java.util.NoSuchElementException;

/** What tests share: telling an object texts, and counting the answers that are not as due. */
final class Due {
    private static int wrong = 0;
    private static int asked = 0;
    // the sentence of the document that is held to at the moment
    private static String sentence = "";

    interface Call {
        long answer();
    }

    private Due() {
    }

    static void is(String call, long got, long want) {
        asked++;
        if (got != want) {
            wrong++;
            if (wrong <= 30) {
                System.out.println(sentence + call + " answered " + got + ", due is " + want);
            }
        }
    }

    static void is(String call, boolean got, boolean want) {
        is(call, got ? 1 : 0, want ? 1 : 0);
    }

    static int asked() {
        return asked;
    }

    static void within(String newSentence) {
        sentence = newSentence.isEmpty() ? "" : "\"" + newSentence + "\": ";
    }

    /** Numbers that are none of 0 to the last one. */
    static int[] others(int last) {
        return new int[] {-1, last + 1, -2, last + 2, 256, Integer.MIN_VALUE, Integer.MAX_VALUE};
    }

    /** The call throws just that exception. */
    static void throwsNone(String call, Call made) {
        int thrown = 0;
        try {
            made.answer();
        } catch (NoSuchElementException e) {
            thrown = 1;
        } catch (RuntimeException e) {
            System.out.println(call + " threw " + e);
        }
        is(call + " throws NoSuchElementException", thrown, 1);
    }

    /** Eight signs as a long; zeros behind a short text. */
    static long eight(String text, int from) {
        long bytes = 0;
        for (int i = from; i < from + 8; i++) {
            bytes = bytes << 8 | (i < text.length() ? text.charAt(i) & 255 : 0);
        }
        return bytes;
    }

    static int feed(OwnMade x, String text) {
        int signs = x.count(6);
        for (int i = 0; i < text.length(); i += 24) {
            signs = x.feed(eight(text, i), eight(text, i + 8), eight(text, i + 16));
        }
        return signs;
    }

    static int land(OwnMade x, String text) {
        feed(x, text);
        return x.land();
    }

    static int rule(OwnMade x, String text) {
        feed(x, text);
        return x.rule();
    }

    /** A new object with this LAND. */
    static OwnMade told(String text) {
        OwnMade x = new OwnMade();
        is("land of " + text, land(x, text), 0);
        return x;
    }

    /** The FAULT that a text is due as a LAND: a kind at a place. */
    static void landFault(String text, int kind, int place) {
        is("land: " + text, land(new OwnMade(), text), kind + 16 * place);
    }

    static void ruleFault(String text, int kind, int place) {
        is("rule: " + text, rule(new OwnMade(), text), kind + 16 * place);
    }

    static void landFine(String text) {
        is("land: " + text, land(new OwnMade(), text), 0);
    }

    static void ruleFine(String text) {
        is("rule: " + text, rule(new OwnMade(), text), 0);
    }

    /** The FAULT stands where the text has a ^ that is not told. */
    static void landWrong(int kind, String marked) {
        landFault(marked.replace("^", ""), kind, marked.indexOf('^'));
    }

    static void ruleWrong(int kind, String marked) {
        ruleFault(marked.replace("^", ""), kind, marked.indexOf('^'));
    }

    /** Ends the test: exit code 1 if an answer was not as due. */
    static void end(String test) {
        System.out.println(test + ": " + asked + " answers, " + wrong + " not as due");
        if (wrong != 0 || asked == 0) {
            System.exit(1);
        }
    }
}
