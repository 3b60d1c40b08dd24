import java.util.ArrayList;
import java.util.List;

/** "What it is" and "Terms" of the document, with a test of its own for each sentence and edge that they name. */
public final class TermsTest extends Checks {
    private static final String[] NAMES = {"a", "b", "c", "d"};
    private static final String[] CALCULATIONS = {"add", "sub", "mul", "less"};
    private static final String[] TWOS = {"add", "sub", "mul", "less", "apply"};
    /** Its value is 1, by one call and one closure: to be seen in what a run counts. */
    private static final String TRACE = "a function:ba b 1 apply bind:b";

    public static void main(String[] args) {
        use();
        ranges();
        wrapping();
        leaves();
        calculations();
        choose();
        bind();
        function();
        applyOrder();
        sixtyCalls();
        meaningsInCalls();
        endsAtOnce();
        largestRuns();
        refusals();
        constants();
        finish();
    }

    private static void use() {
        test("an object is used for at most 512 calls: all of them answer", () -> {
            ClosureCompiler x = new ClosureCompiler();
            // 24 calls that make, 7 that ask and 1 discard: 32 calls, sixteen times.
            for (int round = 0; round < 16; round++) {
                for (int i = 0; i < 24; i++) {
                    due("call " + i + " of round " + round, i == 0 ? x.number(3) : x.function(1, 2), 1);
                }
                due("made in round " + round, x.made(), 24);
                due("depth in round " + round, x.depth(), 1);
                due("value in round " + round, x.value(), 0);
                due("calls in round " + round, x.calls(), 0);
                due("closures in round " + round, x.closures(), 1);
                due("free in round " + round, x.free(), 0);
                x.discard();
                due("run in round " + round, x.run(), NONE);
            }
        });
        test("an object is used for at most 512 calls: the same question each time", () -> {
            asksUpTo512("run", x -> x.run(), TIRED);
            asksUpTo512("value", x -> x.value(), 0);
            asksUpTo512("calls", x -> x.calls(), 60);
            asksUpTo512("closures", x -> x.closures(), 2);
            asksUpTo512("free", x -> x.free(), 0);
            asksUpTo512("depth", x -> x.depth(), 2);
            asksUpTo512("made", x -> x.made(), 10);
        });
        test("an object is used for at most 512 calls: the same refusal each time", () -> {
            asksUpTo512("number(10)", x -> x.number(10), BAD_ARG);
            asksUpTo512("choose()", x -> x.choose(), TOO_FEW);
        });
    }

    private static void asksUpTo512(String what, Call call, int answer) {
        ClosureCompiler x = with("1 " + FOREVER);
        // push asks for the depth after each of its ten words, so 20 calls are gone.
        for (int i = 21; i <= 512; i++) {
            due(what + " as call " + i, call.on(x), answer);
        }
    }

    private static void ranges() {
        test("NAMES are 0 to 3", () -> {
            for (int v = -2; v <= 5; v++) {
                boolean isName = v == 0 || v == 1 || v == 2 || v == 3;
                due("name(" + v + ")", with("1 1").name(v), isName ? 3 : BAD_ARG);
                due("bind(" + v + ")", with("1 1").bind(v), isName ? 1 : BAD_ARG);
                due("function(" + v + ", 0)", with("1 1").function(v, 0), isName ? 2 : BAD_ARG);
                due("function(0, " + v + ")", with("1 1").function(0, v), isName ? 2 : BAD_ARG);
            }
        });
        test("n from -9 to 9", () -> {
            for (int n = -12; n <= 12; n++) {
                due("number(" + n + ")", new ClosureCompiler().number(n), Math.abs(n) <= 9 ? 1 : BAD_ARG);
            }
        });
    }

    private static void wrapping() {
        int least = Integer.MIN_VALUE;
        int greatest = Integer.MAX_VALUE;
        test("arithmetic wraps: a sum over the greatest int", () -> {
            numberIs(GREATEST_INT + " 1 add", least);
            numberIs(GREATEST_INT + " d d add bind:d", -2);
        });
        test("arithmetic wraps: a sum under the least int", () -> {
            numberIs(LEAST_INT + " -1 add", greatest);
            numberIs(LEAST_INT + " d d add bind:d", 0);
        });
        test("arithmetic wraps: a difference over the greatest int", () -> {
            numberIs(GREATEST_INT + " -1 sub", least);
            numberIs("0 " + LEAST_INT + " sub", least);
        });
        test("arithmetic wraps: a difference under the least int", () -> {
            numberIs(LEAST_INT + " 1 sub", greatest);
            numberIs("-2 " + GREATEST_INT + " sub", greatest);
        });
        test("arithmetic wraps: a product", () -> {
            numberIs(LEAST_INT + " -1 mul", least);
            numberIs(LEAST_INT + " 2 mul", 0);
            numberIs(GREATEST_INT + " 2 mul", -2);
            numberIs(GREATEST_INT + " d d mul bind:d", 1);
            // 9 to the power 16.
            numberIs("9 9 mul a a mul a a mul a a mul bind:a bind:a bind:a", (int) 1853020188851841L);
        });
        test("arithmetic wraps: not up to the edge itself", () -> {
            numberIs(GREATEST_INT + " 0 add", greatest);
            numberIs(LEAST_INT + " 0 sub", least);
            numberIs("-1 " + GREATEST_INT + " sub", least);
            numberIs(GREATEST_INT + " -1 mul", -greatest);
        });
        test("less holds where a difference would wrap", () -> {
            numberIs(LEAST_INT + " 1 less", 1);
            numberIs("1 " + LEAST_INT + " less", 0);
            numberIs(GREATEST_INT + " -2 less", 0);
            numberIs("-2 " + GREATEST_INT + " less", 1);
            numberIs(LEAST_INT + " d d 1 sub less bind:d", 1);
            numberIs(LEAST_INT + " d 1 sub d less bind:d", 0);
            numberIs(LEAST_INT + " d d less bind:d", 0);
        });
    }

    private static void leaves() {
        test("number n: n", () -> {
            for (int n = -9; n <= 9; n++) {
                runIs("" + n, NUMBER, n, 0, 0);
            }
        });
        test("name v: what v means, an int or a closure", () -> {
            for (String name : NAMES) {
                runIs("-7 " + name + " bind:" + name, NUMBER, -7, 0, 0);
                runIs("0 function:aa " + name + " bind:" + name, CLOSURE, 0, 0, 1);
                runIs("0 " + name + " bind:" + name, NUMBER, 0, 0, 0);
            }
        });
        test("names have meanings from outside, at first none", () -> {
            for (String name : NAMES) {
                runIs(name, STUCK, 0, 0, 0);
            }
        });
        test("names have, at first, no meanings in a later run either", () -> {
            ClosureCompiler x = with("1 2 3 4 d c add b add a add bind:d bind:c bind:b bind:a");
            due("value with all names bound", x.value(), 10);
            for (int v = 0; v <= 3; v++) {
                x.name(v);
                due("run of name " + v + " after it", x.run(), STUCK);
            }
        });
        test("if it means nothing the run is STUCK, wherever it stands", () -> {
            for (String op : TWOS) {
                runIs("d 1 " + op, STUCK, 0, 0, 0);
                runIs("1 d " + op, STUCK, 0, 0, 0);
            }
            runIs("d 1 2 choose", STUCK, 0, 0, 0);
            runIs("1 d 2 choose", STUCK, 0, 0, 0);
            runIs("0 2 d choose", STUCK, 0, 0, 0);
            runIs("d 1 bind:d", STUCK, 0, 0, 0);
            runIs("1 d bind:c", STUCK, 0, 0, 0);
            runIs("d function:bc 1 apply", STUCK, 0, 1, 1);
        });
    }

    private static void calculations() {
        for (String op : CALCULATIONS) {
            test(op + ": first X, then Y are worked out", () -> {
                runIs("d " + FOREVER + " " + op, STUCK, 0, 0, 0);
                runIs(FOREVER + " d " + op, TIRED, 0, 60, 2);
                runIs(TRACE + " d " + op, STUCK, 0, 1, 1);
                runIs("d " + TRACE + " " + op, STUCK, 0, 0, 0);
            });
            test(op + ": if X's is no int the run is stuck", () -> runIs("1 function:aa 5 " + op, STUCK, 0, 0, 1));
            test(op + ": if Y's is no int the run is stuck", () -> runIs("5 1 function:aa " + op, STUCK, 0, 0, 1));
            test(op + ": if neither is an int the run is stuck", () -> {
                runIs("1 function:aa 1 function:aa " + op, STUCK, 0, 0, 2);
                runIs("1 function:aa a a " + op + " bind:a", STUCK, 0, 0, 1);
            });
            test(op + ": X and Y are worked out before it is stuck by a kind", () -> {
                runIs("1 function:aa " + TRACE + " " + op, STUCK, 0, 1, 2);
                runIs("1 function:aa " + FOREVER + " " + op, TIRED, 0, 60, 3);
            });
        }
        test("the sum", () -> {
            numberIs("7 -9 add", -2);
            numberIs("0 0 add", 0);
            numberIs("-9 -9 add", -18);
        });
        test("the difference", () -> {
            numberIs("7 -9 sub", 16);
            numberIs("-9 9 sub", -18);
            numberIs("0 9 sub", -9);
        });
        test("the product", () -> {
            numberIs("7 -9 mul", -63);
            numberIs("-1 -1 mul", 1);
            numberIs("0 -9 mul", 0);
        });
        test("1 if X's is less than Y's", () -> {
            numberIs("-9 9 less", 1);
            numberIs("2 3 less", 1);
            numberIs("-1 0 less", 1);
        });
        test("0 if not: greater", () -> {
            numberIs("9 -9 less", 0);
            numberIs("3 2 less", 0);
        });
        test("0 if not: equal", () -> {
            numberIs("3 3 less", 0);
            numberIs("0 0 less", 0);
            numberIs("-9 -9 less", 0);
        });
    }

    private static void choose() {
        test("choose: C is worked out first", () -> {
            runIs("d " + FOREVER + " " + FOREVER + " choose", STUCK, 0, 0, 0);
            runIs(FOREVER + " d d choose", TIRED, 0, 60, 2);
        });
        test("choose: if C's is no int the run is stuck", () -> {
            runIs("0 function:aa 2 3 choose", STUCK, 0, 0, 1);
            // The second closure, so that it is not told by its number alone.
            runIs("0 function:aa 0 function:aa 2 3 choose bind:a", STUCK, 0, 0, 2);
        });
        test("choose: stuck by C, neither A nor B is worked out", () ->
            runIs("0 function:aa 1 function:bb 2 function:cc choose", STUCK, 0, 0, 1));
        test("choose: A if it is not 0", () -> {
            for (String c : new String[] {"1", "-1", "2", "9", "-9", LEAST_INT}) {
                numberIs(c + " 5 6 choose", 5);
            }
        });
        test("choose: B if it is 0", () -> {
            numberIs("0 5 6 choose", 6);
            numberIs("4 4 sub 5 6 choose", 6);
            // 2 to the power 32 wraps to 0.
            numberIs(LEAST_INT + " 2 mul 5 6 choose", 6);
        });
        test("choose: the other one is not worked out", () -> {
            runIs("1 3 " + FOREVER + " choose", NUMBER, 3, 0, 0);
            runIs("0 " + FOREVER + " 3 choose", NUMBER, 3, 0, 0);
            runIs("1 3 d choose", NUMBER, 3, 0, 0);
            runIs("0 d 3 choose", NUMBER, 3, 0, 0);
        });
        test("choose: its value may be a closure", () -> {
            runIs("1 5 function:aa 2 choose", CLOSURE, 0, 0, 1);
            runIs("0 2 5 function:aa choose", CLOSURE, 0, 0, 1);
        });
    }

    private static void bind() {
        test("bind: X is worked out, then Y", () -> {
            runIs("d " + FOREVER + " bind:a", STUCK, 0, 0, 0);
            runIs(FOREVER + " d bind:a", TIRED, 0, 60, 2);
        });
        test("bind: X is worked out also where Y has no use for it", () -> {
            runIs("d 5 bind:a", STUCK, 0, 0, 0);
            runIs(FOREVER + " 5 bind:a", TIRED, 0, 60, 2);
            runIs(TRACE + " 5 bind:a", NUMBER, 5, 1, 1);
        });
        test("bind: X is worked out once, however often Y names v", () ->
            runIs(TRACE + " c c add c add bind:c", NUMBER, 3, 1, 1));
        test("bind: in Y v means X's value", () -> numberIs("5 a a mul bind:a", 25));
        test("bind: in Y the other names mean what they meant", () -> {
            numberIs("5 6 a bind:b bind:a", 5);
            runIs("5 b bind:a", STUCK, 0, 0, 0);
        });
        test("bind: in X v means what it meant", () -> {
            runIs("a a bind:a", STUCK, 0, 0, 0);
            numberIs("2 a 1 add a bind:a bind:a", 3);
        });
        test("bind: a bind within hides the one around", () -> numberIs("2 3 a bind:a bind:a", 3));
        test("bind: after Y v means what it meant", () -> {
            numberIs("2 3 a bind:a a mul bind:a", 6);
            runIs("2 a bind:a a add", STUCK, 0, 0, 0);
        });
    }

    private static void function() {
        test("function: a closure, without X being worked out", () -> {
            runIs("d function:ab", CLOSURE, 0, 0, 1);
            runIs(FOREVER + " function:ab", CLOSURE, 0, 0, 1);
        });
        test("function: a new closure each time", () -> {
            runIs("5 function:bc function:ad d 1 apply d 2 apply bind:a bind:d", CLOSURE, 0, 2, 3);
            // Two of one function keep what each had around it.
            numberIs("a b sub function:cb function:ca a 9 apply a 2 apply b 1 apply c 0 apply mul bind:c bind:b bind:a",
                16);
        });
        test("function: keeps all meanings of the names here, each of the four", () -> {
            numberIs("7 a function:bb bind:a 0 apply", 7);
            numberIs("7 b function:aa bind:b 0 apply", 7);
            numberIs("7 c function:ab bind:c 0 apply", 7);
            numberIs("7 d function:ab bind:d 0 apply", 7);
        });
        test("function: keeps meanings that are closures", () ->
            runIs("3 function:aa b 0 apply function:cd bind:b 0 apply", NUMBER, 3, 2, 2));
        test("function: keeps the meanings here, not those at the call", () ->
            numberIs("1 a function:cd 2 b 0 apply bind:a bind:b bind:a", 1));
        test("function: keeps also that a name means nothing", () ->
            runIs("a function:cd 2 b 0 apply bind:a bind:b", STUCK, 0, 1, 1));
    }

    private static void applyOrder() {
        test("apply: first F, then X are worked out", () -> {
            runIs("d " + FOREVER + " apply", STUCK, 0, 0, 0);
            runIs(FOREVER + " d apply", TIRED, 0, 60, 2);
            runIs("a function:ba d apply", STUCK, 0, 0, 1);
        });
        test("apply: X is worked out before F's value is looked at", () -> {
            runIs("5 " + TRACE + " apply", STUCK, 0, 1, 1);
            runIs("5 " + FOREVER + " apply", TIRED, 0, 60, 2);
        });
        test("apply: X is worked out before the call", () ->
            runIs("d function:ba " + TRACE + " apply", STUCK, 0, 2, 2));
        test("apply: X is worked out also where F has no use for it", () ->
            runIs("5 function:ba d apply", STUCK, 0, 0, 1));
        test("apply: if F's value is no closure the run is stuck", () -> {
            // Also where the int looks like the number of a closure that has come to be.
            for (String f : new String[] {"0", "1", "-1", "9"}) {
                runIs(f + " 4 apply", STUCK, 0, 0, 0);
                runIs(f + " 4 function:aa apply", STUCK, 0, 0, 1);
                runIs("4 function:aa " + f + " 4 function:aa apply bind:b", STUCK, 0, 0, 2);
            }
        });
        test("apply: X may be a closure, and so may the value of the call", () -> {
            runIs("a 3 apply function:ba b 1 add function:ab apply", NUMBER, 4, 2, 2);
            runIs("a function:ba 1 function:cc apply", CLOSURE, 0, 1, 2);
        });
    }

    private static void sixtyCalls() {
        test("if 60 applications were CALLED already: 59 and 60 are not too many", () -> {
            runIs(COUNT_DOWN + " 7 8 mul 2 add apply", NUMBER, 58, 59, 1);
            runIs(SIXTY_CALLS, NUMBER, 59, 60, 1);
        });
        test("if 60 applications were CALLED already, it is TIRED", () -> {
            runIs(COUNT_DOWN + " 7 8 mul 4 add apply", TIRED, 0, 60, 1);
            runIs(COUNT_DOWN + " 9 9 mul apply", TIRED, 0, 60, 1);
            runIs(FOREVER, TIRED, 0, 60, 2);
        });
        test("if 60 applications were CALLED already: also if all of them are over", () ->
            runIs(SIXTY_CALLS + " 1 function:aa 5 apply bind:a", TIRED, 0, 60, 2));
        test("if 60 applications were CALLED already: all else goes on", () -> {
            runIs(SIXTY_CALLS + " a 1 add bind:a", NUMBER, 60, 60, 1);
            runIs(SIXTY_CALLS + " 1 function:aa bind:a", CLOSURE, 0, 60, 2);
        });
        test("no closure is tested before 60 called", () -> {
            runIs(SIXTY_CALLS + " 1 apply", STUCK, 0, 60, 1);
            runIs(SIXTY_CALLS + " 1 function:aa apply", STUCK, 0, 60, 2);
        });
        test("F and X are worked out before 60 called is tested", () -> {
            runIs(SIXTY_CALLS + " 1 function:aa d apply bind:c", STUCK, 0, 60, 2);
            runIs(SIXTY_CALLS + " d 1 function:aa apply bind:c", STUCK, 0, 60, 1);
            runIs(SIXTY_CALLS + " 1 function:aa 1 function:aa apply bind:c", TIRED, 0, 60, 3);
        });
        test("if 60 applications were CALLED already: those of another run do not count", () -> {
            ClosureCompiler x = with(SIXTY_CALLS);
            for (int round = 0; round < 3; round++) {
                due("run, again", x.run(), NUMBER);
                due("value, again", x.value(), 59);
            }
        });
    }

    private static void meaningsInCalls() {
        test("the closure's X is worked out", () -> runIs("8 function:ba 1 apply", NUMBER, 8, 1, 1));
        test("with the meanings that it kept", () -> {
            runIs("3 a b add function:cb bind:a 4 apply", NUMBER, 7, 1, 1);
            // What is around the call is not seen.
            runIs("3 a function:cb bind:a 9 b 4 apply bind:a bind:b", NUMBER, 3, 1, 1);
        });
        test("but f means the closure itself", () -> {
            runIs("a function:ab 5 apply", CLOSURE, 0, 1, 1);
            runIs("a function:ab 5 apply 6 apply 7 apply", CLOSURE, 0, 3, 1);
            runIs("b 1 less 7 a 0 apply choose function:ab 0 apply", NUMBER, 7, 1, 1);
        });
        test("but f means the closure itself, not what was kept for f", () ->
            runIs("5 a function:ab 1 apply bind:a", CLOSURE, 0, 1, 1));
        test("f means the closure itself within its X alone", () -> {
            runIs("1 function:ab 2 apply a add", STUCK, 0, 1, 1);
            runIs("5 1 function:ab 2 apply a add bind:a", NUMBER, 6, 1, 1);
        });
        test("and then v means the value of apply's X", () -> {
            for (String v : NAMES) {
                String f = v.equals("a") ? "b" : "a";
                runIs(v + " function:" + f + v + " 5 apply", NUMBER, 5, 1, 1);
            }
        });
        test("and then v means the value of apply's X, not what was kept for v", () ->
            runIs("5 b function:ab 1 apply bind:b", NUMBER, 1, 1, 1));
        test("and then v (also if it is f) means the value of apply's X", () -> {
            for (String v : NAMES) {
                runIs(v + " function:" + v + v + " 5 apply", NUMBER, 5, 1, 1);
            }
        });
        test("apply's X is worked out with the meanings here", () ->
            runIs("4 a a mul function:ba a 1 add apply bind:a", NUMBER, 25, 1, 1));
        test("after a call the names mean what they meant", () -> {
            runIs("a function:ba 3 apply a add", STUCK, 0, 1, 1);
            runIs("4 a function:ba 3 apply a add bind:a", NUMBER, 7, 1, 1);
            // 4 * 3 * 2 * 1: each call needs its own a after the call within it.
            runIs("a b a 1 sub apply a mul 1 choose function:ba 4 apply", NUMBER, 24, 5, 1);
        });
        test("a call changes nothing in what the closure kept", () ->
            // (2 + 1) * (2 + 4): the second call sees neither the first one's v nor its bind.
            runIs("2 a b add a bind:a function:cb a 1 apply a 4 apply mul bind:a bind:a", NUMBER, 18, 2, 1));
    }

    private static void endsAtOnce() {
        String after = "1 function:aa";
        test("a stuck run ends at once: nothing after it comes to be", () -> {
            for (String op : TWOS) {
                runIs("d " + after + " " + op, STUCK, 0, 0, 0);
            }
            runIs("d " + after + " " + after + " choose", STUCK, 0, 0, 0);
            runIs("d " + after + " bind:a", STUCK, 0, 0, 0);
            runIs("d " + TRACE + " bind:a", STUCK, 0, 0, 0);
        });
        test("a stuck run ends at once, out of all calls", () -> {
            runIs("d function:ba 3 apply " + after + " add", STUCK, 0, 1, 1);
            runIs("a 1 add function:ba " + after + " apply " + TRACE + " add", STUCK, 0, 1, 2);
            runIs("b a function:cd apply function:ab 1 apply " + after + " bind:d", STUCK, 0, 1, 2);
        });
        test("a tired run ends at once: nothing after it comes to be", () -> {
            for (String op : TWOS) {
                runIs(FOREVER + " " + after + " " + op, TIRED, 0, 60, 2);
            }
            runIs(FOREVER + " " + after + " " + after + " choose", TIRED, 0, 60, 2);
            runIs(FOREVER + " " + after + " bind:a", TIRED, 0, 60, 2);
        });
        test("a tired run ends at once: no stuck after it", () -> {
            runIs(FOREVER + " d add", TIRED, 0, 60, 2);
            runIs(FOREVER + " d bind:a", TIRED, 0, 60, 2);
        });
        test("what came to be before the end counts", () -> {
            runIs(TRACE + " d add", STUCK, 0, 1, 1);
            runIs(after + " d add", STUCK, 0, 0, 1);
        });
    }

    private static void largestRuns() {
        test("no call ever throws: the most closures", () ->
            runIs("1 function:cc 1 function:cc 1 function:cc 1 function:cc b a apply bind:d bind:d bind:d bind:d"
                + " function:ba 1 apply", TIRED, 0, 60, 241));
        test("no call ever throws: the most binds", () ->
            runIs("0" + " 0 bind:d".repeat(8) + " b a apply bind:d function:ba 1 apply", TIRED, 0, 60, 1));
        test("no call ever throws: the most that wait for a call", () -> {
            runIs("b a apply" + " 1 add".repeat(9) + " function:ba 1 apply", TIRED, 0, 60, 1);
            runIs("1 1 1 b a apply add add add 1 1 1 b a apply add add add add function:ba 1 apply",
                TIRED, 0, 60, 1);
        });
        test("no call ever throws: the most values that wait", () ->
            runIs("1 1 1 1 b a apply add add add add function:ba 1 apply", TIRED, 0, 60, 1));
    }

    private static final int[] EDGES = {
        Integer.MIN_VALUE, Integer.MIN_VALUE + 1, -100, -10, -9, -1, 0, 1, 3, 4, 5, 9, 10, 31, 32, 33, 100,
        Integer.MAX_VALUE - 1, Integer.MAX_VALUE};

    /** Every call that makes a program, with arguments at and beyond all edges. */
    private static List<Call> edgeCalls() {
        List<Call> calls = new ArrayList<>();
        calls.add(x -> x.choose());
        for (int a : EDGES) {
            calls.add(x -> x.number(a));
            calls.add(x -> x.name(a));
            calls.add(x -> x.two(a));
            calls.add(x -> x.bind(a));
            for (int b : EDGES) {
                calls.add(x -> x.function(a, b));
            }
        }
        return calls;
    }

    private static final int[][] HELD_AND_MADE = {
        {0, 0}, {1, 1}, {2, 2}, {3, 3}, {6, 6}, {1, 23}, {5, 23}, {6, 23}, {1, 24}, {2, 24}, {3, 24}, {5, 24}, {6, 24}};

    private static void refusals() {
        test("no call ever throws: any argument in any state", () -> {
            for (int[] state : HELD_AND_MADE) {
                for (Call call : edgeCalls()) {
                    ClosureCompiler x = holding(state[0], state[1]);
                    int answer = call.on(x);
                    due("whether the answer is a code or a number on the stack",
                        answer >= TOO_FEW && answer <= MOST_HELD && answer != 0 ? 1 : 0, 1);
                    askAll(x);
                    x.discard();
                    askAll(x);
                }
            }
        });
        test("a refused call changes nothing", () -> {
            for (int[] state : HELD_AND_MADE) {
                for (Call call : edgeCalls()) {
                    ClosureCompiler x = holding(state[0], state[1]);
                    int answer = call.on(x);
                    if (answer < 0) {
                        same("after a refusal by " + answer, x, holding(state[0], state[1]));
                    }
                }
            }
        });
        test("a refused call changes nothing in a program with names and calls", () -> {
            String words = "a b c " + FOREVER;
            Call[] calls = {y -> y.number(10), y -> y.name(-1), y -> y.two(5), y -> y.bind(4), y -> y.function(4, 0),
                y -> y.function(0, 4)};
            for (Call call : calls) {
                ClosureCompiler x = with(words);
                due("the refused call", call.on(x), BAD_ARG);
                same("after a refused call", x, with(words));
            }
        });
        test("a question changes nothing", () -> {
            String words = "a " + FOREVER + " 1 function:ab 7";
            ClosureCompiler x = with(words);
            askAll(x);
            askAll(x);
            same("after questions", x, with(words));
        });
    }

    private static void constants() {
        test("the constants", () -> {
            due("BAD_ARG", ClosureCompiler.BAD_ARG, -1);
            due("FULL", ClosureCompiler.FULL, -2);
            due("TOO_FEW", ClosureCompiler.TOO_FEW, -3);
            due("NONE", ClosureCompiler.NONE, -4);
            due("NUMBER", ClosureCompiler.NUMBER, 0);
            due("CLOSURE", ClosureCompiler.CLOSURE, 1);
            due("STUCK", ClosureCompiler.STUCK, 2);
            due("TIRED", ClosureCompiler.TIRED, 3);
        });
    }
}
