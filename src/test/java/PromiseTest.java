/** The promises 1 to 15 of the document, with a test of its own for each sentence, edge and order that they name. */
public final class PromiseTest extends Checks {
    private static final int MIN = Integer.MIN_VALUE;
    private static final int MAX = Integer.MAX_VALUE;
    private static final int[] TOO_SMALL_NUMBERS = {-10, -11, -100, MIN + 1, MIN};
    private static final int[] TOO_LARGE_NUMBERS = {10, 11, 100, MAX - 1, MAX};
    private static final int[] TOO_SMALL_NAMES = {-1, -2, -32, MIN + 1, MIN};
    private static final int[] TOO_LARGE_NAMES = {4, 5, 32, MAX - 1, MAX};
    private static final int[] TOO_SMALL_OPS = {-1, -2, MIN};
    private static final int[] TOO_LARGE_OPS = {5, 6, 7, 8, 9, 10, MAX};

    public static void main(String[] args) {
        newObject();
        number();
        name();
        two();
        choose();
        bind();
        function();
        discard();
        depth();
        made();
        run();
        value();
        calls();
        closures();
        free();
        finish();
    }

    private static void newObject() {
        test("1: the stack is empty", () -> isEmpty("of a new object", new ClosureCompiler()));
        test("1: the stack is empty: the first push answers 1", () -> {
            accepted("number(3)", x -> x.number(3), 0, 0, 1);
            accepted("name(3)", x -> x.name(3), 0, 0, 1);
        });
        test("1: the stack is empty: nothing is there to take off", () -> {
            refused("two(0)", x -> x.two(0), 0, 0, TOO_FEW);
            refused("choose()", x -> x.choose(), 0, 0, TOO_FEW);
            refused("bind(0)", x -> x.bind(0), 0, 0, TOO_FEW);
            refused("function(0, 0)", x -> x.function(0, 0), 0, 0, TOO_FEW);
        });
        test("1: the stack is empty, whatever another object holds", () -> {
            ClosureCompiler full = holding(6, 24);
            isEmpty("of a second object", new ClosureCompiler());
            stateIs("of the first object", full, 6, 24);
        });
    }

    private static void number() {
        test("2: pushes number n", () -> {
            for (int n = -9; n <= 9; n++) {
                numberIs("" + n, n);
            }
            ClosureCompiler x = with("4 7");
            due("value of the upper", x.value(), 7);
            push(x, "sub");
            due("value of lower sub upper", x.value(), -3);
        });
        test("2: n less than -9 answers BAD_ARG", () -> eachRefused(TOO_SMALL_NUMBERS, PromiseTest::refusedNumber));
        test("2: n greater than 9 answers BAD_ARG", () -> eachRefused(TOO_LARGE_NUMBERS, PromiseTest::refusedNumber));
        test("2: n of -9 and of 9 is in range", () -> {
            due("value of -9", accepted("number(-9)", x -> x.number(-9), 3, 3, 4).value(), -9);
            due("value of 9", accepted("number(9)", x -> x.number(9), 3, 3, 4).value(), 9);
        });
        pushLimits("2", "number(8)", x -> x.number(8));
        test("2: BAD_ARG is tested before FULL", () -> {
            badArgumentFirst("number(-10)", x -> x.number(-10));
            badArgumentFirst("number(10)", x -> x.number(10));
        });
    }

    private static void name() {
        test("3: pushes name v", () -> {
            for (int v = 0; v <= 3; v++) {
                ClosureCompiler x = with("5");
                due("name(" + v + ")", x.name(v), 2);
                due("free of name " + v, x.free(), 1 << v);
                due("run of name " + v, x.run(), STUCK);
                due("bind(" + v + ") of 5 and name " + v, x.bind(v), 1);
                due("value of bind " + v, x.value(), 5);
            }
        });
        test("3: v less than 0 answers BAD_ARG", () -> eachRefused(TOO_SMALL_NAMES, PromiseTest::refusedName));
        test("3: v greater than 3 answers BAD_ARG", () -> eachRefused(TOO_LARGE_NAMES, PromiseTest::refusedName));
        test("3: v of 0 and of 3 is in range", () -> {
            due("free of name 0", accepted("name(0)", x -> x.name(0), 3, 3, 4).free(), 1);
            due("free of name 3", accepted("name(3)", x -> x.name(3), 3, 3, 4).free(), 8);
        });
        pushLimits("3", "name(2)", x -> x.name(2));
        test("3: BAD_ARG is tested before FULL", () -> {
            badArgumentFirst("name(-1)", x -> x.name(-1));
            badArgumentFirst("name(4)", x -> x.name(4));
        });
    }

    private static void two() {
        test("4: takes X and Y off (Y the top) and pushes, 0: add", () -> numberIs("7 3 add", 10));
        test("4: takes X and Y off (Y the top) and pushes, 1: sub", () -> numberIs("7 3 sub", 4));
        test("4: takes X and Y off (Y the top) and pushes, 2: mul", () -> numberIs("7 3 mul", 21));
        test("4: takes X and Y off (Y the top) and pushes, 3: less", () -> {
            numberIs("3 7 less", 1);
            numberIs("7 3 less", 0);
        });
        test("4: takes X and Y off (Y the top) and pushes, 4: apply (X is its F)", () -> {
            runIs("a 1 add function:ba 4 apply", NUMBER, 5, 1, 1);
            runIs("4 a 1 add function:ba apply", STUCK, 0, 0, 1);
        });
        test("4: op less than 0 answers BAD_ARG", () -> eachRefused(TOO_SMALL_OPS, PromiseTest::refusedTwo));
        test("4: op greater than 4 answers BAD_ARG", () -> eachRefused(TOO_LARGE_OPS, PromiseTest::refusedTwo));
        test("4: op of 0 and of 4 is in range", () -> {
            due("value of 2 add 3", accepted("two(0)", x -> x.two(0), 3, 3, 2).value(), 5);
            due("run of 2 apply 3", accepted("two(4)", x -> x.two(4), 3, 3, 2).run(), STUCK);
        });
        for (int i = 0; i <= 4; i++) {
            int op = i;
            twoPartLimits("4", "two(" + op + ")", x -> x.two(op));
        }
        test("4: BAD_ARG is tested before FULL and TOO_FEW", () -> {
            badArgumentFirst("two(-1)", x -> x.two(-1));
            badArgumentFirst("two(5)", x -> x.two(5));
        });
    }

    private static void choose() {
        test("5: takes C, A and B off (B the top) and pushes choose C A B", () -> {
            numberIs("1 2 3 choose", 2);
            numberIs("0 2 3 choose", 3);
        });
        test("5: 24 made answers FULL", () -> refused("choose()", x -> x.choose(), 3, 24, FULL));
        test("5: 24 made answers FULL: the 24th itself is accepted", () ->
            due("value of 2 ? 3 : 4", accepted("choose()", x -> x.choose(), 4, 23, 2).value(), 3));
        test("5: fewer than three answers TOO_FEW", () -> {
            for (int held = 0; held <= 2; held++) {
                refused("choose()", x -> x.choose(), held, held, TOO_FEW);
            }
        });
        test("5: three are not too few", () -> accepted("choose()", x -> x.choose(), 3, 3, 1));
        test("5: FULL is tested before TOO_FEW", () -> {
            refused("choose()", x -> x.choose(), 1, 24, FULL);
            refused("choose()", x -> x.choose(), 2, 24, FULL);
        });
        test("5: otherwise the number on the stack: a full stack has room for choose", () ->
            due("value of 4 ? 5 : 6", accepted("choose()", x -> x.choose(), 6, 6, 4).value(), 5));
    }

    private static void bind() {
        test("6: takes X and Y off (Y the top) and pushes bind v X Y", () -> {
            numberIs("5 a 1 add bind:a", 6);
            runIs("a 5 bind:a", STUCK, 0, 0, 0);
        });
        test("6: pushes bind v X Y with the v that was given", () -> {
            numberIs("5 a bind:a", 5);
            numberIs("5 b bind:b", 5);
            numberIs("5 c bind:c", 5);
            numberIs("5 d bind:d", 5);
            runIs("5 b bind:a", STUCK, 0, 0, 0);
        });
        test("6: v less than 0 answers BAD_ARG", () -> eachRefused(TOO_SMALL_NAMES, PromiseTest::refusedBind));
        test("6: v greater than 3 answers BAD_ARG", () -> eachRefused(TOO_LARGE_NAMES, PromiseTest::refusedBind));
        test("6: v of 0 and of 3 is in range", () -> {
            accepted("bind(0)", x -> x.bind(0), 3, 3, 2);
            accepted("bind(3)", x -> x.bind(3), 3, 3, 2);
        });
        twoPartLimits("6", "bind(1)", x -> x.bind(1));
        test("6: BAD_ARG is tested before FULL and TOO_FEW", () -> {
            badArgumentFirst("bind(-1)", x -> x.bind(-1));
            badArgumentFirst("bind(4)", x -> x.bind(4));
        });
    }

    private static void function() {
        test("7: puts function f v X in place of the top X", () -> {
            ClosureCompiler x = accepted("function(1, 2)", y -> y.function(1, 2), 3, 3, 3);
            due("run of the function", x.run(), CLOSURE);
            push(x, "5 apply");
            due("value of the function of 5", x.value(), 3);
            push(x, "sub");
            due("value with the one below", x.value(), -1);
        });
        test("7: f is the first, v the second", () -> {
            runIs("a function:ab 5 apply", CLOSURE, 0, 1, 1);
            runIs("b function:ab 5 apply", NUMBER, 5, 1, 1);
        });
        test("7: f less than 0 answers BAD_ARG", () -> eachRefused(TOO_SMALL_NAMES, PromiseTest::refusedSelf));
        test("7: f greater than 3 answers BAD_ARG", () -> eachRefused(TOO_LARGE_NAMES, PromiseTest::refusedSelf));
        test("7: v less than 0 answers BAD_ARG", () -> eachRefused(TOO_SMALL_NAMES, PromiseTest::refusedArgument));
        test("7: v greater than 3 answers BAD_ARG", () -> eachRefused(TOO_LARGE_NAMES, PromiseTest::refusedArgument));
        test("7: f and v both out of range answer BAD_ARG", () -> {
            refused("function(-1, 4)", x -> x.function(-1, 4), 1, 1, BAD_ARG);
            refused("function(4, -1)", x -> x.function(4, -1), 1, 1, BAD_ARG);
        });
        test("7: f and v of 0 and of 3 are in range", () -> {
            accepted("function(0, 0)", x -> x.function(0, 0), 1, 1, 1);
            accepted("function(0, 3)", x -> x.function(0, 3), 1, 1, 1);
            accepted("function(3, 0)", x -> x.function(3, 0), 1, 1, 1);
            accepted("function(3, 3)", x -> x.function(3, 3), 1, 1, 1);
        });
        test("7: 24 made answers FULL", () -> refused("function(0, 1)", x -> x.function(0, 1), 1, 24, FULL));
        test("7: 24 made answers FULL: the 24th itself is accepted", () ->
            due("run of it", accepted("function(0, 1)", x -> x.function(0, 1), 2, 23, 2).run(), CLOSURE));
        test("7: empty stack answers TOO_FEW", () -> {
            refused("function(0, 1)", x -> x.function(0, 1), 0, 0, TOO_FEW);
            ClosureCompiler x = holding(6, 24);
            x.discard();
            due("function(0, 1) after discard", x.function(0, 1), TOO_FEW);
        });
        test("7: one is not too few", () -> accepted("function(0, 1)", x -> x.function(0, 1), 1, 1, 1));
        // FULL and TOO_FEW never meet here: with 24 made the stack is not empty.
        test("7: BAD_ARG is tested before FULL and TOO_FEW", () -> {
            badArgumentFirst("function(-1, 0)", x -> x.function(-1, 0));
            badArgumentFirst("function(4, 0)", x -> x.function(4, 0));
            badArgumentFirst("function(0, -1)", x -> x.function(0, -1));
            badArgumentFirst("function(0, 4)", x -> x.function(0, 4));
        });
        test("7: otherwise the number on the stack: a full stack has room for function", () ->
            accepted("function(0, 1)", x -> x.function(0, 1), 6, 6, 6));
    }

    private interface Refusal {
        void of(int argument);
    }

    private static void eachRefused(int[] arguments, Refusal refusal) {
        for (int argument : arguments) {
            refusal.of(argument);
        }
    }

    private static void refusedNumber(int n) {
        refused("number(" + n + ")", x -> x.number(n), 3, 3, BAD_ARG);
    }

    private static void refusedName(int v) {
        refused("name(" + v + ")", x -> x.name(v), 3, 3, BAD_ARG);
    }

    private static void refusedTwo(int op) {
        refused("two(" + op + ")", x -> x.two(op), 3, 3, BAD_ARG);
    }

    private static void refusedBind(int v) {
        refused("bind(" + v + ")", x -> x.bind(v), 3, 3, BAD_ARG);
    }

    private static void refusedSelf(int f) {
        refused("function(" + f + ", 1)", x -> x.function(f, 1), 3, 3, BAD_ARG);
    }

    private static void refusedArgument(int v) {
        refused("function(1, " + v + ")", x -> x.function(1, v), 3, 3, BAD_ARG);
    }

    /** What number and name say of FULL and of their answer. */
    private static void pushLimits(String promise, String what, Call call) {
        test(promise + ": 24 made answers FULL", () -> {
            refused(what, call, 1, 24, FULL);
            refused(what, call, 5, 24, FULL);
        });
        test(promise + ": 24 made answers FULL: the 24th itself is accepted", () ->
            due("whether the one below is still the top", endsAsClosure(accepted(what, call, 1, 23, 2)), 0));
        test(promise + ": since the stack was last emptied", () -> {
            ClosureCompiler x = holding(1, 24);
            x.discard();
            due(what + " after 24 and discard", call.on(x), 1);
            stateIs("after 24, discard and " + what, x, 1, 1);
            x.discard();
            fill(x, 1, 23);
            due(what + " as the 24th after discard", call.on(x), 2);
            due(what + " as the 25th after discard", call.on(x), FULL);
        });
        test(promise + ": it holds 6 answers FULL", () -> {
            refused(what, call, 6, 6, FULL);
            refused(what, call, 6, 23, FULL);
        });
        test(promise + ": it holds 6 answers FULL: the sixth itself is accepted", () -> accepted(what, call, 5, 5, 6));
        test(promise + ": it holds 6 answers FULL: not after one was taken off", () -> {
            ClosureCompiler x = holding(6, 6);
            push(x, "add");
            due(what + " on five of seven made", call.on(x), 6);
            due(what + " on six again", call.on(x), FULL);
            push(x, "choose");
            due(what + " on four", call.on(x), 5);
        });
        test(promise + ": both limits at once answer FULL", () -> refused(what, call, 6, 24, FULL));
        test(promise + ": both limits not yet reached", () -> accepted(what, call, 5, 23, 6));
        test(promise + ": otherwise the number on the stack", () -> {
            for (int held = 0; held <= 5; held++) {
                accepted(what, call, held, held, held + 1);
            }
        });
    }

    private static int endsAsClosure(ClosureCompiler x) {
        return x.run() == CLOSURE ? 1 : 0;
    }

    /** What two and bind say of FULL, of TOO_FEW and of their answer. */
    private static void twoPartLimits(String promise, String what, Call call) {
        test(promise + ": 24 made answers FULL, " + what, () -> {
            refused(what, call, 2, 24, FULL);
            refused(what, call, 6, 24, FULL);
        });
        test(promise + ": 24 made answers FULL: the 24th itself is accepted, " + what, () ->
            accepted(what, call, 2, 23, 1));
        test(promise + ": fewer than two answers TOO_FEW, " + what, () -> {
            refused(what, call, 0, 0, TOO_FEW);
            refused(what, call, 1, 1, TOO_FEW);
            refused(what, call, 1, 23, TOO_FEW);
        });
        test(promise + ": two are not too few, " + what, () -> accepted(what, call, 2, 2, 1));
        test(promise + ": FULL is tested before TOO_FEW, " + what, () -> refused(what, call, 1, 24, FULL));
        test(promise + ": otherwise the number on the stack, " + what, () -> {
            for (int held = 2; held <= 6; held++) {
                accepted(what, call, held, held, held - 1);
            }
        });
    }

    /** BAD_ARG, although the stack holds too few, or 24 were made, or it holds 6, or some of these at once. */
    private static void badArgumentFirst(String what, Call call) {
        refused(what, call, 0, 0, BAD_ARG);
        refused(what, call, 1, 1, BAD_ARG);
        refused(what, call, 1, 24, BAD_ARG);
        refused(what, call, 2, 24, BAD_ARG);
        refused(what, call, 6, 6, BAD_ARG);
        refused(what, call, 6, 24, BAD_ARG);
    }

    private static void discard() {
        test("8: empties the stack", () -> {
            for (int held = 0; held <= 6; held++) {
                ClosureCompiler x = holding(held, held);
                x.discard();
                isEmpty("after discard of " + held, x);
            }
        });
        test("8: empties the stack: nothing is there to take off", () -> {
            ClosureCompiler x = holding(6, 6);
            x.discard();
            due("two(0) after discard", x.two(0), TOO_FEW);
            due("choose() after discard", x.choose(), TOO_FEW);
            due("bind(0) after discard", x.bind(0), TOO_FEW);
            due("function(0, 0) after discard", x.function(0, 0), TOO_FEW);
            due("number(1) after discard", x.number(1), 1);
        });
        test("8: empties the stack: six have room again", () -> {
            ClosureCompiler x = holding(6, 6);
            x.discard();
            fill(x, 6, 6);
            due("the seventh after discard", x.number(1), FULL);
        });
        test("8: no program counts as made", () -> {
            ClosureCompiler x = holding(6, 24);
            x.discard();
            isEmpty("after discard of 24", x);
            fill(x, 6, 24);
            due("the 25th after discard", x.function(0, 0), FULL);
        });
        test("8: no program counts as made: discard of an empty stack, and twice", () -> {
            ClosureCompiler x = new ClosureCompiler();
            x.discard();
            isEmpty("after discard of nothing", x);
            fill(x, 2, 9);
            x.discard();
            x.discard();
            isEmpty("after discard twice", x);
        });
        test("8: nothing of the programs before is left", () -> {
            ClosureCompiler x = with("a b add c add d add function:aa");
            x.discard();
            for (int round = 0; round < 5; round++) {
                push(x, "" + round);
                for (int i = 0; i < 11; i++) {
                    push(x, round + " add");
                }
                due("value in round " + round, x.value(), 12 * round);
                due("free in round " + round, x.free(), 0);
                x.discard();
            }
        });
    }

    private static final String[] WORDS =
        {"1", "a", "add", "2", "b", "choose", "function:ab", "3", "bind:c", "4", "apply"};
    private static final int[] DEPTHS = {1, 2, 1, 2, 3, 1, 1, 2, 1, 2, 1};

    private static void depth() {
        test("9: the number on the stack, after each kind of push", () -> {
            ClosureCompiler x = new ClosureCompiler();
            for (int i = 0; i < WORDS.length; i++) {
                push(x, WORDS[i]);
                due("depth after " + WORDS[i], x.depth(), DEPTHS[i]);
            }
        });
        test("9: the number on the stack, from an empty to a full one", () -> {
            ClosureCompiler x = new ClosureCompiler();
            for (int held = 0; held <= 6; held++) {
                due("depth of " + held, x.depth(), held);
                x.number(held);
            }
            due("depth after a seventh was refused", x.depth(), 6);
        });
    }

    private static void made() {
        test("10: how many programs were made: each of the six kinds counts one", () -> {
            ClosureCompiler x = new ClosureCompiler();
            for (int i = 0; i < WORDS.length; i++) {
                push(x, WORDS[i]);
                due("made after " + WORDS[i], x.made(), i + 1);
            }
        });
        test("10: accepted calls alone count", () -> {
            ClosureCompiler x = with("1");
            x.number(10);
            x.name(4);
            x.two(5);
            x.two(0);
            x.choose();
            x.bind(4);
            x.bind(0);
            x.function(4, 0);
            x.function(0, 4);
            due("made after refused calls", x.made(), 1);
            askAll(x);
            due("made after questions", x.made(), 1);
        });
        test("10: none at first, 24 at most", () -> {
            due("made at first", new ClosureCompiler().made(), 0);
            ClosureCompiler x = holding(1, 24);
            x.function(0, 0);
            due("made after a 25th was refused", x.made(), 24);
        });
        test("10: since the stack was last emptied", () -> {
            ClosureCompiler x = holding(6, 24);
            x.discard();
            due("made after discard", x.made(), 0);
            push(x, "1 2 add");
            due("made after discard and three more", x.made(), 3);
        });
        // Taking the last ones off to put one in their place is no emptying.
        test("10: since the stack was last emptied: not by two, choose, bind or function", () -> {
            due("made after two", with("1 2 add").made(), 3);
            due("made after choose", with("1 2 3 choose").made(), 4);
            due("made after bind", with("1 2 bind:a").made(), 3);
            due("made after function", with("1 function:aa").made(), 2);
        });
    }

    private static void run() {
        test("11: NUMBER by its value", () -> runIs("5", NUMBER, 5, 0, 0));
        test("11: CLOSURE by its value", () -> runIs("5 function:aa", CLOSURE, 0, 0, 1));
        test("11: STUCK", () -> runIs("a", STUCK, 0, 0, 0));
        test("11: TIRED", () -> runIs(FOREVER, TIRED, 0, 60, 2));
        test("11: how a run of the top ends, not of what is below", () -> {
            runIs("d 5", NUMBER, 5, 0, 0);
            runIs("5 d", STUCK, 0, 0, 0);
            runIs("5 d 6 function:aa", CLOSURE, 0, 0, 1);
        });
        test("11: NONE if the stack is empty", () -> {
            ClosureCompiler x = new ClosureCompiler();
            due("run of a new object", x.run(), NONE);
            push(x, FOREVER);
            due("run of a program", x.run(), TIRED);
            x.discard();
            due("run after discard", x.run(), NONE);
        });
        test("11: a run changes nothing", () -> {
            ClosureCompiler x = with("2 " + FOREVER + " 3");
            ClosureCompiler twin = with("2 " + FOREVER + " 3");
            for (int round = 0; round < 3; round++) {
                due("run, again", x.run(), NUMBER);
            }
            same("after runs", x, twin);
        });
    }

    private static void value() {
        test("12: the value of the run of the top, if it is an int", () -> {
            numberIs("5", 5);
            numberIs("4 9 sub", -5);
            numberIs("0", 0);
            // Looks like codes, and is none.
            numberIs("-4", NONE);
            numberIs(LEAST_INT, Integer.MIN_VALUE);
            numberIs(GREATEST_INT, Integer.MAX_VALUE);
        });
        test("12: the value of the run of the top, not of what is below", () -> due("value", with("3 4").value(), 4));
        test("12: else 0: a closure, also where it is not the first", () -> {
            due("value of a closure", with("5 function:aa").value(), 0);
            due("value of a third closure", with("1 function:aa 1 function:aa 1 function:aa bind:a bind:a").value(), 0);
            due("value of a closure by a call", with("a function:ab 5 apply").value(), 0);
        });
        test("12: else 0: a stuck run, also with an int worked out before", () -> {
            due("value of a name alone", with("d").value(), 0);
            due("value of 5 add a name", with("5 d add").value(), 0);
            due("value of 7 bound around a name", with("7 d bind:a").value(), 0);
        });
        test("12: else 0: a tired run, also with an int worked out before", () -> {
            due("value of a tired run", with(FOREVER).value(), 0);
            due("value of 5 add a tired run", with("5 " + FOREVER + " add").value(), 0);
        });
        test("12: 0 also if the stack is empty", () -> {
            ClosureCompiler x = with("7");
            due("value of 7", x.value(), 7);
            x.discard();
            due("value after discard", x.value(), 0);
            due("value of a new object", new ClosureCompiler().value(), 0);
        });
        test("12: needs no run before it, and is not the last run's", () -> {
            ClosureCompiler x = with("7");
            x.run();
            push(x, COUNT_DOWN + " 5 apply");
            due("value without a run", x.value(), 5);
        });
    }

    private static void calls() {
        test("13: how many applications are called", () -> {
            due("calls without apply", with("3 function:aa").calls(), 0);
            due("calls of one", with("a function:ba 1 apply").calls(), 1);
            due("calls within calls", with(COUNT_DOWN + " 9 apply").calls(), 10);
            due("calls one after another",
                with("a function:ba a 1 apply a 2 apply add a 3 apply add bind:a").calls(), 3);
        });
        test("13: an application that is stuck or tired is not called", () -> {
            due("calls of a number", with("3 4 apply").calls(), 0);
            due("calls with a stuck argument", with("a function:ba d apply").calls(), 0);
            due("calls of one that is stuck within", with("d function:ba 1 apply").calls(), 1);
            due("calls of a tired run", with(FOREVER).calls(), 60);
        });
        test("13: an application that is not worked out is not called", () ->
            due("calls in choose", with("0 a function:ba 1 apply 5 choose").calls(), 0));
        test("13: in the run of the top", () -> due("calls", with("a function:ba 1 apply 5").calls(), 0));
        test("13: of one run, not of all runs", () -> {
            ClosureCompiler x = with(COUNT_DOWN + " 5 apply");
            x.run();
            x.value();
            due("calls, first", x.calls(), 6);
            due("calls, again", x.calls(), 6);
        });
        test("13: 0 if the stack is empty", () -> {
            ClosureCompiler x = with(FOREVER);
            due("calls of a tired run", x.calls(), 60);
            x.discard();
            due("calls after discard", x.calls(), 0);
            due("calls of a new object", new ClosureCompiler().calls(), 0);
        });
    }

    private static void closures() {
        test("14: how many closures come to be", () -> {
            due("closures of a number", with("1").closures(), 0);
            due("closures of a function", with("1 function:aa").closures(), 1);
            due("closures of two functions", with("1 function:aa 1 function:aa bind:a").closures(), 2);
            due("closures of a function with itself", with("a function:ab 5 apply 6 apply").closures(), 1);
        });
        test("14: one for each time that a function is worked out", () -> {
            due("inner, not called", with("0 function:aa function:aa").closures(), 1);
            due("inner, called once", with("0 function:aa function:aa 1 apply").closures(), 2);
            due("inner, called twice",
                with("0 function:aa function:ab b 1 apply b 1 apply bind:c bind:b").closures(), 3);
            due("inner, in each of sixty calls",
                with("1 function:cc b 1 apply bind:d function:ba 1 apply").closures(), 61);
        });
        test("14: a function that is not worked out brings none", () ->
            due("closures in choose", with("1 0 function:aa 0 function:aa choose").closures(), 1));
        test("14: in the run of the top", () -> due("closures", with("1 function:aa 5").closures(), 0));
        test("14: of one run, not of all runs", () -> {
            ClosureCompiler x = with("1 function:aa");
            x.run();
            x.value();
            due("closures, first", x.closures(), 1);
            due("closures, again", x.closures(), 1);
        });
        test("14: 0 if the stack is empty", () -> {
            ClosureCompiler x = with("1 function:aa");
            due("closures of a function", x.closures(), 1);
            x.discard();
            due("closures after discard", x.closures(), 0);
            due("closures of a new object", new ClosureCompiler().closures(), 0);
        });
    }

    private static void free() {
        test("15: the sum of 2 to the power v", () -> {
            freeIs("5", 0);
            freeIs("a", 1);
            freeIs("b", 2);
            freeIs("c", 4);
            freeIs("d", 8);
            freeIs("a b add c add d add", 15);
        });
        test("15: a set: a name that stands twice counts once", () -> freeIs("d d add d add", 8));
        test("15: that stand in the top, in each part of each kind", () -> {
            for (String op : new String[] {"add", "sub", "mul", "less", "apply"}) {
                freeIs("5 c " + op, 4);
                freeIs("c 5 " + op, 4);
                freeIs("a d " + op, 9);
            }
            freeIs("d 1 1 choose", 8);
            freeIs("1 d 1 choose", 8);
            freeIs("1 1 d choose", 8);
            freeIs("a b c choose", 7);
        });
        test("15: no bind v X Y has them in its Y", () -> {
            freeIs("1 a bind:a", 0);
            freeIs("1 d bind:d", 0);
            freeIs("1 b bind:a", 2);
            freeIs("1 a 2 b add bind:b bind:a", 0);
        });
        test("15: but in a bind's X they are free", () -> {
            freeIs("a 1 bind:a", 1);
            freeIs("a a bind:a", 1);
            freeIs("b a bind:a", 2);
        });
        test("15: and outside of the bind they are free", () -> freeIs("1 a bind:a a add", 1));
        test("15: no function has them in its X as its f", () -> freeIs("a function:ab", 0));
        test("15: no function has them in its X as its v", () -> freeIs("b function:ab", 0));
        test("15: f and v being one name", () -> {
            freeIs("c function:cc", 0);
            freeIs("a b add c add d add function:cc", 11);
        });
        test("15: other names in a function are free", () -> freeIs("a b add c add d add function:ab", 12));
        test("15: and outside of the function they are free", () -> freeIs("a function:bb a function:aa add", 1));
        test("15: by functions and binds further out too", () -> {
            freeIs("a b add function:ab function:cd", 0);
            freeIs("a b add c add d add function:ab function:cd", 0);
            freeIs("1 a b add function:bb bind:a", 0);
        });
        test("15: where they stand, not whether they are worked out", () -> freeIs("1 2 d choose function:ab", 8));
        test("15: of the top, not of what is below", () -> freeIs("a b", 2));
        test("15: NONE if the stack is empty", () -> {
            ClosureCompiler x = with("d");
            x.discard();
            due("free after discard", x.free(), NONE);
            due("free of a new object", new ClosureCompiler().free(), NONE);
        });
    }
}
