/** Every promise of the document: ordinary inputs, the edges it names, and wrong inputs. */
public final class PromiseTest {
    private static final int BAD_ARG = -1;
    private static final int FULL = -2;
    private static final int TOO_FEW = -3;
    private static final int NONE = -4;
    private static final int NUMBER = 0;
    private static final int CLOSURE = 1;
    private static final int STUCK = 2;
    private static final int TIRED = 3;

    /** (function b a: (less a 1) ? 0 : 1 + b(a - 1)), without its argument: n of it takes n + 1 calls. */
    private static final String COUNT_DOWN = "a 1 less 0 1 b a 1 sub apply add choose function:ba";
    /** Applies itself for ever. */
    private static final String FOREVER = "a a apply function:ba a a apply function:ba apply";

    private static int wrong = 0;

    private static void due(String what, int got, int want) {
        if (got != want) {
            wrong++;
            System.out.println(what + " answered " + got + ", due is " + want);
        }
    }

    public static void main(String[] args) {
        constants();
        newObject();
        number();
        name();
        two();
        choose();
        bind();
        function();
        discard();
        depthAndMade();
        order();
        stuckRuns();
        calls();
        closures();
        meanings();
        arithmetic();
        free();
        queriesChangeNothing();
        System.out.println(wrong == 0 ? "all answers are as due" : wrong + " answers are not as due");
        if (wrong != 0) {
            System.exit(1);
        }
    }

    /**
     * Pushes by words: a whole number; a to d for the names 0 to 3; add, sub, mul, less, apply; choose; bind:v;
     * function:fv. Every word has to be accepted.
     */
    private static void push(ClosureCompiler x, String words) {
        for (String word : words.split(" ")) {
            int answer = pushWord(x, word);
            due("the answer to " + word + " in '" + words + "'", answer, x.depth());
            due("whether " + word + " is accepted in '" + words + "'", answer > 0 ? 1 : 0, 1);
        }
    }

    private static int pushWord(ClosureCompiler x, String word) {
        switch (word) {
            case "add": return x.two(0);
            case "sub": return x.two(1);
            case "mul": return x.two(2);
            case "less": return x.two(3);
            case "apply": return x.two(4);
            case "choose": return x.choose();
            default: break;
        }
        if (word.startsWith("bind:")) {
            return x.bind(word.charAt(5) - 'a');
        }
        if (word.startsWith("function:")) {
            return x.function(word.charAt(9) - 'a', word.charAt(10) - 'a');
        }
        if (word.length() == 1 && Character.isLetter(word.charAt(0))) {
            return x.name(word.charAt(0) - 'a');
        }
        return x.number(Integer.parseInt(word));
    }

    private static ClosureCompiler made(String words) {
        ClosureCompiler x = new ClosureCompiler();
        push(x, words);
        return x;
    }

    private static void runIs(String words, int run, int value, int calls, int closures) {
        ClosureCompiler x = made(words);
        due("run of '" + words + "'", x.run(), run);
        due("value of '" + words + "'", x.value(), value);
        due("calls of '" + words + "'", x.calls(), calls);
        due("closures of '" + words + "'", x.closures(), closures);
    }

    private static void numberIs(String words, int value) {
        ClosureCompiler x = made(words);
        due("run of '" + words + "'", x.run(), NUMBER);
        due("value of '" + words + "'", x.value(), value);
    }

    private static void stateIs(String when, ClosureCompiler x, int depth, int made) {
        due("depth " + when, x.depth(), depth);
        due("made " + when, x.made(), made);
    }

    private static void constants() {
        due("BAD_ARG", ClosureCompiler.BAD_ARG, BAD_ARG);
        due("FULL", ClosureCompiler.FULL, FULL);
        due("TOO_FEW", ClosureCompiler.TOO_FEW, TOO_FEW);
        due("NONE", ClosureCompiler.NONE, NONE);
        due("NUMBER", ClosureCompiler.NUMBER, NUMBER);
        due("CLOSURE", ClosureCompiler.CLOSURE, CLOSURE);
        due("STUCK", ClosureCompiler.STUCK, STUCK);
        due("TIRED", ClosureCompiler.TIRED, TIRED);
    }

    // Promise 1, and what 11 to 15 answer for an empty stack.
    private static void newObject() {
        emptyStack("of a new object", new ClosureCompiler());
        ClosureCompiler one = made("1 2");
        ClosureCompiler other = new ClosureCompiler();
        emptyStack("of a second object", other);
        stateIs("of the first object", one, 2, 2);
    }

    private static void emptyStack(String when, ClosureCompiler x) {
        stateIs(when, x, 0, 0);
        due("run " + when, x.run(), NONE);
        due("value " + when, x.value(), 0);
        due("calls " + when, x.calls(), 0);
        due("closures " + when, x.closures(), 0);
        due("free " + when, x.free(), NONE);
    }

    private static final int[] FAR = {Integer.MIN_VALUE, Integer.MIN_VALUE + 1, -100, 100, Integer.MAX_VALUE};

    // Promise 2.
    private static void number() {
        for (int n = -9; n <= 9; n++) {
            numberIs("" + n, n);
        }
        ClosureCompiler x = made("1 2 3");
        due("number(-10)", x.number(-10), BAD_ARG);
        due("number(10)", x.number(10), BAD_ARG);
        for (int n : FAR) {
            due("number(" + n + ")", x.number(n), BAD_ARG);
        }
        stateIs("after refused numbers", x, 3, 3);
        due("value after refused numbers", x.value(), 3);
        push(x, "4 5 6");
        due("number on six", x.number(7), FULL);
        due("number(10) on six", x.number(10), BAD_ARG);
        stateIs("after number on six", x, 6, 6);
        due("value after number on six", x.value(), 6);
        x = madeTwentyFour("1");
        due("number after 24", x.number(0), FULL);
        due("number(-10) after 24", x.number(-10), BAD_ARG);
        stateIs("after number after 24", x, 1, 24);
        x = made("1");
        for (int i = 0; i < 22; i++) {
            push(x, "function:aa");
        }
        due("number as the 24th", x.number(5), 2);
        due("value of the 24th", x.value(), 5);
    }

    /** The words, and functions around the top until 24 programs are made. */
    private static ClosureCompiler madeTwentyFour(String words) {
        ClosureCompiler x = made(words);
        for (int i = 0; i < 24 && x.made() < 24; i++) {
            push(x, "function:aa");
        }
        return x;
    }

    // Promise 3.
    private static void name() {
        for (int v = 0; v < 4; v++) {
            ClosureCompiler x = new ClosureCompiler();
            due("name(" + v + ")", x.name(v), 1);
            due("run of name " + v, x.run(), STUCK);
            due("free of name " + v, x.free(), 1 << v);
        }
        ClosureCompiler x = made("1 2 3");
        due("name(-1)", x.name(-1), BAD_ARG);
        due("name(4)", x.name(4), BAD_ARG);
        for (int v : FAR) {
            due("name(" + v + ")", x.name(v), BAD_ARG);
        }
        stateIs("after refused names", x, 3, 3);
        push(x, "4 5 6");
        due("name on six", x.name(0), FULL);
        due("name(4) on six", x.name(4), BAD_ARG);
        stateIs("after name on six", x, 6, 6);
        due("value after name on six", x.value(), 6);
        x = madeTwentyFour("1");
        due("name after 24", x.name(3), FULL);
        due("name(-1) after 24", x.name(-1), BAD_ARG);
        stateIs("after name after 24", x, 1, 24);
        x = made("1");
        for (int i = 0; i < 22; i++) {
            push(x, "function:aa");
        }
        due("name as the 24th", x.name(2), 2);
        due("free of the 24th", x.free(), 4);
    }

    // Promise 4.
    private static void two() {
        numberIs("7 3 add", 10);
        numberIs("7 3 sub", 4);
        numberIs("7 3 mul", 21);
        numberIs("7 3 less", 0);
        numberIs("3 7 less", 1);
        numberIs("3 3 less", 0);
        numberIs("-4 3 less", 1);
        numberIs("3 -4 less", 0);
        runIs("a 1 add function:ba 4 apply", NUMBER, 5, 1, 1);
        runIs("4 a 1 add function:ba apply", STUCK, 0, 0, 1);
        ClosureCompiler x = new ClosureCompiler();
        due("two on none", x.two(0), TOO_FEW);
        due("two(5) on none", x.two(5), BAD_ARG);
        push(x, "8");
        for (int op = 0; op < 5; op++) {
            due("two(" + op + ") on one", x.two(op), TOO_FEW);
        }
        push(x, "5");
        due("two(-1)", x.two(-1), BAD_ARG);
        due("two(5)", x.two(5), BAD_ARG);
        for (int op : FAR) {
            due("two(" + op + ")", x.two(op), BAD_ARG);
        }
        stateIs("after refused twos", x, 2, 2);
        due("two(1)", x.two(1), 1);
        stateIs("after two", x, 1, 3);
        due("value after two", x.value(), 3);
        x = made("1 2 3 4 5 6");
        due("two on six", x.two(2), 5);
        due("value after two on six", x.value(), 30);
        x = madeTwentyFour("1 2");
        due("two after 24", x.two(0), FULL);
        due("two(5) after 24", x.two(5), BAD_ARG);
        stateIs("after two after 24", x, 2, 24);
        x = madeTwentyFour("1");
        due("two after 24 on one", x.two(0), FULL);
    }

    // Promise 5.
    private static void choose() {
        numberIs("1 2 3 choose", 2);
        numberIs("0 2 3 choose", 3);
        numberIs("-1 2 3 choose", 2);
        numberIs("9 2 3 choose", 2);
        runIs("0 " + FOREVER + " 3 choose", NUMBER, 3, 0, 0);
        runIs("1 3 " + FOREVER + " choose", NUMBER, 3, 0, 0);
        runIs("0 a 3 choose", NUMBER, 3, 0, 0);
        runIs("1 3 a choose", NUMBER, 3, 0, 0);
        runIs("a 3 3 choose", STUCK, 0, 0, 0);
        runIs("0 function:aa 2 3 choose", STUCK, 0, 0, 1);
        runIs("1 0 function:aa 3 choose", CLOSURE, 0, 0, 1);
        ClosureCompiler x = new ClosureCompiler();
        due("choose on none", x.choose(), TOO_FEW);
        push(x, "0");
        due("choose on one", x.choose(), TOO_FEW);
        push(x, "5");
        due("choose on two", x.choose(), TOO_FEW);
        stateIs("after refused chooses", x, 2, 2);
        push(x, "6");
        due("choose on three", x.choose(), 1);
        stateIs("after choose", x, 1, 4);
        due("value after choose", x.value(), 6);
        x = made("1 2 3 4 5 6");
        due("choose on six", x.choose(), 4);
        due("value after choose on six", x.value(), 5);
        x = madeTwentyFour("1 2 3");
        due("choose after 24", x.choose(), FULL);
        stateIs("after choose after 24", x, 3, 24);
        x = madeTwentyFour("1");
        due("choose after 24 on one", x.choose(), FULL);
    }

    // Promise 6.
    private static void bind() {
        numberIs("5 a bind:a", 5);
        numberIs("5 b bind:b", 5);
        numberIs("5 c bind:c", 5);
        numberIs("5 d bind:d", 5);
        numberIs("5 7 bind:a", 7);
        runIs("5 b bind:a", STUCK, 0, 0, 0);
        runIs("a a bind:a", STUCK, 0, 0, 0);
        runIs("a 5 bind:a", STUCK, 0, 0, 0);
        runIs("0 function:ab a bind:a", CLOSURE, 0, 0, 1);
        numberIs("2 a 1 add a bind:a bind:a", 3);
        numberIs("2 3 a bind:a a mul bind:a", 6);
        runIs("2 a bind:a a add", STUCK, 0, 0, 0);
        runIs("a 2 a bind:a add", STUCK, 0, 0, 0);
        ClosureCompiler x = new ClosureCompiler();
        due("bind on none", x.bind(0), TOO_FEW);
        due("bind(4) on none", x.bind(4), BAD_ARG);
        push(x, "8");
        due("bind on one", x.bind(3), TOO_FEW);
        push(x, "d");
        due("bind(-1)", x.bind(-1), BAD_ARG);
        due("bind(4)", x.bind(4), BAD_ARG);
        for (int v : FAR) {
            due("bind(" + v + ")", x.bind(v), BAD_ARG);
        }
        stateIs("after refused binds", x, 2, 2);
        due("bind(3)", x.bind(3), 1);
        stateIs("after bind", x, 1, 3);
        due("value after bind", x.value(), 8);
        x = made("1 2 3 4 5 a");
        due("bind on six", x.bind(0), 5);
        due("value after bind on six", x.value(), 5);
        x = madeTwentyFour("1 2");
        due("bind after 24", x.bind(0), FULL);
        due("bind(4) after 24", x.bind(4), BAD_ARG);
        stateIs("after bind after 24", x, 2, 24);
        x = madeTwentyFour("1");
        due("bind after 24 on one", x.bind(0), FULL);
    }

    // Promise 7.
    private static void function() {
        runIs("a function:ba", CLOSURE, 0, 0, 1);
        runIs("d function:ba", CLOSURE, 0, 0, 1);
        ClosureCompiler x = new ClosureCompiler();
        due("function on none", x.function(0, 0), TOO_FEW);
        due("function(4, 0) on none", x.function(4, 0), BAD_ARG);
        push(x, "3 7");
        due("function(-1, 0)", x.function(-1, 0), BAD_ARG);
        due("function(4, 0)", x.function(4, 0), BAD_ARG);
        due("function(0, -1)", x.function(0, -1), BAD_ARG);
        due("function(0, 4)", x.function(0, 4), BAD_ARG);
        due("function(4, -1)", x.function(4, -1), BAD_ARG);
        for (int far : FAR) {
            due("function(" + far + ", 1)", x.function(far, 1), BAD_ARG);
            due("function(1, " + far + ")", x.function(1, far), BAD_ARG);
        }
        stateIs("after refused functions", x, 2, 2);
        due("value after refused functions", x.value(), 7);
        due("function(3, 3)", x.function(3, 3), 2);
        stateIs("after function", x, 2, 3);
        due("run after function", x.run(), CLOSURE);
        x = made("1 2 3 4 5 6");
        due("function on six", x.function(0, 1), 6);
        due("run after function on six", x.run(), CLOSURE);
        x = madeTwentyFour("7");
        due("function after 24", x.function(0, 0), FULL);
        due("function(0, 4) after 24", x.function(0, 4), BAD_ARG);
        stateIs("after function after 24", x, 1, 24);
    }

    // Promise 8.
    private static void discard() {
        ClosureCompiler x = new ClosureCompiler();
        x.discard();
        emptyStack("after discard of nothing", x);
        push(x, "1 2 3 4 5 6");
        x.discard();
        emptyStack("after discard of six", x);
        push(x, "1 a function:bc");
        x.discard();
        emptyStack("after discard of a function", x);
        due("two after discard", x.two(0), TOO_FEW);
        due("choose after discard", x.choose(), TOO_FEW);
        due("bind after discard", x.bind(0), TOO_FEW);
        due("function after discard", x.function(0, 0), TOO_FEW);
        x = madeTwentyFour("1");
        x.discard();
        emptyStack("after discard of 24", x);
        push(x, "1 2 3 choose 4 add");
        stateIs("after discard and six more", x, 1, 6);
        due("value after discard", x.value(), 6);
        // All 24 places are used again, with other programs than before.
        for (int round = 0; round < 5; round++) {
            x.discard();
            push(x, "" + round);
            for (int i = 0; i < 11; i++) {
                push(x, round + " add");
            }
            due("value in round " + round, x.value(), 12 * round);
            due("free in round " + round, x.free(), 0);
        }
    }

    // Promises 9 and 10.
    private static void depthAndMade() {
        ClosureCompiler x = new ClosureCompiler();
        String[] words = {"1", "a", "add", "2", "b", "choose", "function:ab", "3", "bind:c", "4", "apply"};
        int[] depths = {1, 2, 1, 2, 3, 1, 1, 2, 1, 2, 1};
        for (int i = 0; i < words.length; i++) {
            push(x, words[i]);
            stateIs("after " + words[i], x, depths[i], i + 1);
        }
        x = madeTwentyFour("1 2 3");
        stateIs("after 24", x, 3, 24);
    }

    // Promise 11: what is worked out first, seen by which end comes first.
    private static void order() {
        for (String op : new String[] {"add", "sub", "mul", "less", "apply"}) {
            runIs("d " + FOREVER + " " + op, STUCK, 0, 0, 0);
            runIs(FOREVER + " d " + op, TIRED, 0, 60, 2);
            // Both sides are worked out before either's kind is looked at.
            runIs("0 function:aa " + FOREVER + " " + op, TIRED, 0, 60, 3);
        }
        runIs("5 " + FOREVER + " apply", TIRED, 0, 60, 2);
        runIs("5 0 function:aa apply", STUCK, 0, 0, 1);
        runIs("5 0 function:aa add", STUCK, 0, 0, 1);
        runIs("0 function:aa 5 add", STUCK, 0, 0, 1);
        runIs("0 function:aa 5 less", STUCK, 0, 0, 1);
        runIs("0 function:aa 0 function:aa less", STUCK, 0, 0, 2);
        runIs("d " + FOREVER + " 1 choose", STUCK, 0, 0, 0);
        runIs(FOREVER + " d 1 choose", TIRED, 0, 60, 2);
        runIs(FOREVER + " d bind:d", TIRED, 0, 60, 2);
        runIs("d " + FOREVER + " bind:d", STUCK, 0, 0, 0);
        runIs("5 " + FOREVER + " bind:d", TIRED, 0, 60, 2);
        // The program below the top has no say.
        runIs("d 5", NUMBER, 5, 0, 0);
        runIs("5 d", STUCK, 0, 0, 0);
    }

    // Promises 11 to 14: a stuck run ends at once, and what came to be before counts.
    private static void stuckRuns() {
        runIs("a 0 function:aa add", STUCK, 0, 0, 0);
        runIs("0 function:aa a add", STUCK, 0, 0, 1);
        runIs("a function:ba 3 apply d add", STUCK, 0, 1, 1);
        runIs("d a function:ba 3 apply add", STUCK, 0, 0, 0);
        runIs("d function:ba 3 apply 0 function:aa add", STUCK, 0, 1, 1);
        runIs("3 4 apply", STUCK, 0, 0, 0);
        runIs("3 d apply", STUCK, 0, 0, 0);
    }

    // Promises 11 and 13: sixty calls, and no more.
    private static void calls() {
        runIs(FOREVER, TIRED, 0, 60, 2);
        runIs(COUNT_DOWN + " 9 apply", NUMBER, 9, 10, 1);
        // 7 * 8 + 2 = 58, that is 59 calls; and so on.
        runIs(COUNT_DOWN + " 7 8 mul 2 add apply", NUMBER, 58, 59, 1);
        runIs(COUNT_DOWN + " 7 8 mul 3 add apply", NUMBER, 59, 60, 1);
        runIs(COUNT_DOWN + " 7 8 mul 4 add apply", TIRED, 0, 60, 1);
        runIs(COUNT_DOWN + " 9 9 mul apply", TIRED, 0, 60, 1);
        // After sixty calls an application of no closure is still stuck, not tired.
        runIs(COUNT_DOWN + " 7 8 mul 3 add apply 1 apply", STUCK, 0, 60, 1);
        runIs(COUNT_DOWN + " 7 8 mul 3 add apply 1 function:aa apply", STUCK, 0, 60, 2);
        runIs(COUNT_DOWN + " 7 8 mul 3 add apply 1 function:aa 5 apply bind:a", TIRED, 0, 60, 2);
        // Calls that are over count as much as calls within calls.
        runIs("a function:ba a 1 apply a 2 apply add a 3 apply add bind:a", NUMBER, 6, 3, 1);
    }

    // Promise 14.
    private static void closures() {
        runIs("0 function:aa 0 function:bb bind:a", CLOSURE, 0, 0, 2);
        runIs("1 0 function:aa 0 function:aa choose", CLOSURE, 0, 0, 1);
        runIs("0 function:aa function:aa", CLOSURE, 0, 0, 1);
        runIs("0 function:aa function:aa 1 apply", CLOSURE, 0, 1, 2);
        runIs("0 function:aa function:aa 1 apply 1 apply", NUMBER, 0, 2, 2);
        // A function within one that calls itself for ever comes to be in every call, and once at the start.
        runIs("1 function:cc b 1 apply bind:d function:ba 1 apply", TIRED, 0, 60, 61);
        runIs("1 function:cc 1 function:cc 1 function:cc b a apply bind:d bind:d bind:d function:ba 1 apply",
            TIRED, 0, 60, 181);
        // As many scopes, and as many tasks waiting for each other, as 24 programs can ask for in sixty calls.
        runIs("0" + " 0 bind:d".repeat(8) + " b a apply bind:d function:ba 1 apply", TIRED, 0, 60, 1);
        runIs("b a apply" + " 1 add".repeat(9) + " function:ba 1 apply", TIRED, 0, 60, 1);
        // As many results waiting as the stack's six allow.
        runIs("1 1 1 1 b a apply add add add add function:ba 1 apply", TIRED, 0, 60, 1);
    }

    // Promises 11 and 12: what names mean.
    private static void meanings() {
        // A closure keeps the meanings from where it came to be, not from where it is called.
        numberIs("1 a function:cd 2 b 0 apply bind:a bind:b bind:a", 1);
        // Later binds do not reach into a closure.
        runIs("a function:cd 2 b 0 apply bind:a bind:b", STUCK, 0, 1, 1);
        // The argument's meaning wins where f and v are one name.
        runIs("a function:aa 5 apply", NUMBER, 5, 1, 1);
        // f means the closure itself.
        runIs("a function:ab 5 apply", CLOSURE, 0, 1, 1);
        runIs("a function:ab 5 apply 6 apply 7 apply", CLOSURE, 0, 3, 1);
        // f hides what was around, and so does v.
        runIs("5 a function:ab 1 apply bind:a", CLOSURE, 0, 1, 1);
        runIs("5 b function:ab 1 apply bind:b", NUMBER, 1, 1, 1);
        // All four names are kept.
        numberIs("1 2 3 d c add b add function:ad bind:b bind:c 4 apply bind:d", 9);
        numberIs("7 d function:ab bind:d 0 apply", 7);
        numberIs("7 c function:ab bind:c 0 apply", 7);
        numberIs("7 b function:aa bind:b 0 apply", 7);
        numberIs("7 a function:bb bind:a 0 apply", 7);
        // Two closures of one function keep what each had around it.
        numberIs("a b sub function:cb function:ca a 9 apply a 2 apply b 1 apply c 0 apply mul bind:c bind:b bind:a",
            16);
        // What a call means by its names is gone after it.
        runIs("a function:ba 3 apply a add", STUCK, 0, 1, 1);
        // The argument is worked out outside of the closure.
        runIs("4 a a mul function:ba a 1 add apply bind:a", NUMBER, 25, 1, 1);
        // A closure as an argument.
        runIs("a 3 apply function:ba b 1 add function:ab apply", NUMBER, 4, 2, 2);
        // Names have no meaning at the beginning of a later run either.
        ClosureCompiler x = made("3 a bind:a");
        due("value of bind", x.value(), 3);
        push(x, "a");
        due("run of name after a run that had it", x.run(), STUCK);
    }

    // Promise 12: arithmetic wraps.
    private static void arithmetic() {
        // 9 to the power 16, by squaring.
        numberIs("9 9 mul a a mul a a mul a a mul bind:a bind:a bind:a", (int) 1853020188851841L);
        numberIs("8 8 mul a a mul a a mul bind:a bind:a 8 mul 2 mul", 268435456);
        String two31 = "8 8 mul a a mul a a mul bind:a bind:a 8 mul 8 mul 2 mul";
        numberIs(two31, Integer.MIN_VALUE);
        numberIs(two31 + " 1 sub", Integer.MAX_VALUE);
        numberIs(two31 + " 0 less", 1);
        numberIs("0 " + two31 + " less", 0);
        numberIs("1 " + two31 + " sub", Integer.MIN_VALUE + 1);
        numberIs(two31 + " 1 sub 1 add", Integer.MIN_VALUE);
        // The difference wraps, and less has to hold all the same.
        numberIs(two31 + " 1 less", 1);
        numberIs("-1 -1 mul", 1);
        numberIs("-9 9 sub", -18);
    }

    // Promise 15.
    private static void free() {
        freeIs("5", 0);
        freeIs("a", 1);
        freeIs("b", 2);
        freeIs("c", 4);
        freeIs("d", 8);
        for (String op : new String[] {"add", "sub", "mul", "less", "apply"}) {
            freeIs("a d " + op, 9);
            freeIs("a a " + op, 1);
            freeIs("5 c " + op, 4);
            freeIs("c 5 " + op, 4);
        }
        freeIs("a b c choose", 7);
        freeIs("d 1 1 choose", 8);
        freeIs("1 d 1 choose", 8);
        freeIs("1 1 d choose", 8);
        freeIs("1 a bind:a", 0);
        freeIs("a 1 bind:a", 1);
        freeIs("a a bind:a", 1);
        freeIs("b a bind:a", 2);
        freeIs("1 b bind:a", 2);
        freeIs("1 a a add bind:a a add", 1);
        freeIs("a function:ab", 0);
        freeIs("b function:ab", 0);
        freeIs("a b add c add d add function:ab", 12);
        freeIs("a b add c add d add function:cc", 11);
        freeIs("a b add function:ab function:cd", 0);
        freeIs("a function:bb a function:aa add", 1);
        freeIs("1 function:ab", 0);
        freeIs("a b add c add d add", 15);
        // Where it stands counts, not whether it is ever worked out.
        freeIs("1 2 d choose function:ab", 8);
        ClosureCompiler x = made("a b");
        due("free looks at the top alone", x.free(), 2);
    }

    private static void freeIs(String words, int names) {
        due("free of '" + words + "'", made(words).free(), names);
    }

    private static void queriesChangeNothing() {
        ClosureCompiler x = made("1 " + FOREVER);
        for (int round = 0; round < 3; round++) {
            due("run, again", x.run(), TIRED);
            due("value, again", x.value(), 0);
            due("calls, again", x.calls(), 60);
            due("closures, again", x.closures(), 2);
            due("free, again", x.free(), 0);
            stateIs("again", x, 2, 10);
        }
        x = made(COUNT_DOWN + " 5 apply");
        for (int round = 0; round < 3; round++) {
            due("value, without run", x.value(), 5);
            due("closures, without run", x.closures(), 1);
            due("calls, without run", x.calls(), 6);
        }
    }
}
