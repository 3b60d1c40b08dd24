/** What the tests share: programs written as words, objects at an edge, and the count of answers that are wrong. */
abstract class Checks {
    static final int BAD_ARG = -1;
    static final int FULL = -2;
    static final int TOO_FEW = -3;
    static final int NONE = -4;
    static final int NUMBER = 0;
    static final int CLOSURE = 1;
    static final int STUCK = 2;
    static final int TIRED = 3;

    static final int MOST_MADE = 24;
    static final int MOST_HELD = 6;

    /** (function b a: a ? 1 + b(a - 1) : 0), without its argument: of n it is n, by n + 1 calls. */
    static final String COUNT_DOWN = "a 1 b a 1 sub apply add 0 choose function:ba";
    /** Its value is 59, its calls are 60, its closures 1. */
    static final String SIXTY_CALLS = COUNT_DOWN + " 7 8 mul 3 add apply";
    /** Applies itself for ever: 60 calls and 2 closures until it is tired. */
    static final String FOREVER = "a a apply function:ba a a apply function:ba apply";
    /** The least int, by wrap-around: 8 to the power 10, times 2. */
    static final String LEAST_INT = "8 8 mul a a mul a a mul bind:a bind:a 8 mul 8 mul 2 mul";
    static final String GREATEST_INT = LEAST_INT + " 1 sub";

    /** A call that answers, on whatever object it is given. */
    interface Call {
        int on(ClosureCompiler x);
    }

    private static int wrong = 0;
    private static int tests = 0;
    private static String sentence = "";

    /** One sentence of the document, named in every wrong answer that its test meets. */
    static void test(String ofSentence, Runnable body) {
        sentence = ofSentence;
        tests++;
        try {
            body.run();
        } catch (RuntimeException | StackOverflowError thrown) {
            wrong++;
            System.out.println("[" + sentence + "] a call threw " + thrown);
        }
    }

    static void due(String what, int got, int want) {
        if (got != want) {
            wrong++;
            System.out.println("[" + sentence + "] " + what + " answered " + got + ", due is " + want);
        }
    }

    static void finish() {
        System.out.println(tests + " tests: "
            + (wrong == 0 ? "all answers are as due" : wrong + " answers are not as due"));
        if (wrong != 0) {
            System.exit(1);
        }
    }

    /**
     * Pushes by words: a whole number; a to d for the names 0 to 3; add, sub, mul, less, apply; choose; bind:v;
     * function:fv. Every word has to be accepted.
     */
    static void push(ClosureCompiler x, String words) {
        for (String word : words.split(" ")) {
            int answer = pushWord(x, word);
            due("the answer to " + word + " in '" + words + "'", answer, x.depth());
            due("whether " + word + " is accepted in '" + words + "'", answer > 0 ? 1 : 0, 1);
        }
    }

    private static int pushWord(ClosureCompiler x, String word) {
        switch (word) {
            case "add": return x.two(0);
            case "sub": return x.two(1);
            case "mul": return x.two(2);
            case "less": return x.two(3);
            case "apply": return x.two(4);
            case "choose": return x.choose();
            default: break;
        }
        if (word.startsWith("bind:")) {
            return x.bind(word.charAt(5) - 'a');
        }
        if (word.startsWith("function:")) {
            return x.function(word.charAt(9) - 'a', word.charAt(10) - 'a');
        }
        if (word.length() == 1 && Character.isLetter(word.charAt(0))) {
            return x.name(word.charAt(0) - 'a');
        }
        return x.number(Integer.parseInt(word));
    }

    static ClosureCompiler with(String words) {
        ClosureCompiler x = new ClosureCompiler();
        push(x, words);
        return x;
    }

    /** The numbers 1 to held on the stack, the lowest within so many functions that made programs were made. */
    static ClosureCompiler holding(int held, int made) {
        ClosureCompiler x = new ClosureCompiler();
        fill(x, held, made);
        return x;
    }

    /** The same on an object whose stack is empty. */
    static void fill(ClosureCompiler x, int held, int made) {
        for (int i = 1; i <= held; i++) {
            push(x, "" + i);
            for (int more = held; i == 1 && more < made; more++) {
                push(x, "function:aa");
            }
        }
        stateIs("of an object at an edge", x, held, made);
    }

    static void stateIs(String when, ClosureCompiler x, int depth, int made) {
        due("depth " + when, x.depth(), depth);
        due("made " + when, x.made(), made);
    }

    static void isEmpty(String when, ClosureCompiler x) {
        stateIs(when, x, 0, 0);
        due("run " + when, x.run(), NONE);
        due("value " + when, x.value(), 0);
        due("calls " + when, x.calls(), 0);
        due("closures " + when, x.closures(), 0);
        due("free " + when, x.free(), NONE);
    }

    /** All that can be asked of the two has the same answer, now and while the programs below the top come up. */
    static void same(String when, ClosureCompiler x, ClosureCompiler twin) {
        answersAreSame(when, x, twin);
        for (int i = 0; i < MOST_HELD && twin.depth() > 1 && twin.made() < MOST_MADE; i++) {
            due("two(1) " + when, x.two(1), twin.two(1));
            answersAreSame(when + " and two(1)", x, twin);
        }
    }

    private static void answersAreSame(String when, ClosureCompiler x, ClosureCompiler twin) {
        stateIs(when, x, twin.depth(), twin.made());
        due("run " + when, x.run(), twin.run());
        due("value " + when, x.value(), twin.value());
        due("calls " + when, x.calls(), twin.calls());
        due("closures " + when, x.closures(), twin.closures());
        due("free " + when, x.free(), twin.free());
    }

    /** Asks all that should change nothing. */
    static void askAll(ClosureCompiler x) {
        x.depth();
        x.made();
        x.run();
        x.value();
        x.calls();
        x.closures();
        x.free();
    }

    /** On an object that holds so many, with so many made, the call answers the code and changes nothing. */
    static void refused(String what, Call call, int held, int made, int code) {
        String where = what + " with " + held + " held and " + made + " made";
        ClosureCompiler x = holding(held, made);
        due(where, call.on(x), code);
        same("after " + where, x, holding(held, made));
    }

    /** On such an object the call is accepted, answers the number on the stack, and one more is made. */
    static ClosureCompiler accepted(String what, Call call, int held, int made, int heldThen) {
        String where = what + " with " + held + " held and " + made + " made";
        ClosureCompiler x = holding(held, made);
        due(where, call.on(x), heldThen);
        stateIs("after " + where, x, heldThen, made + 1);
        return x;
    }

    static void runIs(String words, int run, int value, int calls, int closures) {
        ClosureCompiler x = with(words);
        due("run of '" + words + "'", x.run(), run);
        due("value of '" + words + "'", x.value(), value);
        due("calls of '" + words + "'", x.calls(), calls);
        due("closures of '" + words + "'", x.closures(), closures);
    }

    static void numberIs(String words, int value) {
        ClosureCompiler x = with(words);
        due("run of '" + words + "'", x.run(), NUMBER);
        due("value of '" + words + "'", x.value(), value);
    }

    static void freeIs(String words, int names) {
        due("free of '" + words + "'", with(words).free(), names);
    }
}
