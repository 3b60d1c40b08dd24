import java.util.ArrayList;
import java.util.List;

/** Compares long, repeatable runs of calls with a recursive reading of the document, written apart from the class. */
public final class ModelTest {
    private static final int OBJECTS = 6000;
    private static final int CALLS_PER_OBJECT = 500;

    private static int wrong = 0;
    private static long seed = 20261115L;
    /** How often each end of a run was seen, so that the test can tell that it reached all of them. */
    private static final int[] ENDS = new int[4];

    /** A value is an Integer or a Closure. */
    private record Closure(Program function, Object[] meanings) { }

    private record Program(String kind, int f, int v, List<Program> parts) { }

    /** How a run ends that does not come to a value. */
    private static final class Ended extends Exception {
        private static final long serialVersionUID = 1L;
        final int end;

        Ended(int end) {
            this.end = end;
        }
    }

    private static final class Run {
        int end;
        int value;
        int calls;
        int closures;

        Run(Program top) {
            try {
                Object result = workOut(top, new Object[4]);
                end = result instanceof Integer ? 0 : 1;
                value = result instanceof Integer i ? i : 0;
            } catch (Ended ended) {
                end = ended.end;
            }
        }

        private Object workOut(Program p, Object[] meanings) throws Ended {
            switch (p.kind) {
                case "number":
                    return p.v;
                case "name":
                    if (meanings[p.v] == null) {
                        throw new Ended(2);
                    }
                    return meanings[p.v];
                case "choose":
                    int chosen = whole(workOut(p.parts.get(0), meanings)) != 0 ? 1 : 2;
                    return workOut(p.parts.get(chosen), meanings);
                case "bind":
                    Object[] inner = meanings.clone();
                    inner[p.v] = workOut(p.parts.get(0), meanings);
                    return workOut(p.parts.get(1), inner);
                case "function":
                    closures++;
                    return new Closure(p, meanings.clone());
                default:
                    Object x = workOut(p.parts.get(0), meanings);
                    Object y = workOut(p.parts.get(1), meanings);
                    return p.kind.equals("apply") ? apply(x, y) : calculate(p.kind, whole(x), whole(y));
            }
        }

        private Object apply(Object f, Object x) throws Ended {
            if (!(f instanceof Closure closure)) {
                throw new Ended(2);
            }
            if (calls == 60) {
                throw new Ended(3);
            }
            calls++;
            Object[] inner = closure.meanings.clone();
            inner[closure.function.f] = closure;
            inner[closure.function.v] = x;
            return workOut(closure.function.parts.get(0), inner);
        }

        private static int calculate(String kind, int x, int y) {
            return switch (kind) {
                case "add" -> (int) ((long) x + y);
                case "sub" -> (int) ((long) x - y);
                case "mul" -> (int) ((long) x * y);
                default -> Integer.compare(x, y) < 0 ? 1 : 0;
            };
        }

        private static int whole(Object value) throws Ended {
            if (value instanceof Integer i) {
                return i;
            }
            throw new Ended(2);
        }
    }

    private static final class Model {
        static final String[] TWOS = {"add", "sub", "mul", "less", "apply"};
        final List<Program> stack = new ArrayList<>();
        int made;

        int leaf(String kind, int v, boolean inRange) {
            if (!inRange) {
                return -1;
            }
            if (made == 24 || stack.size() == 6) {
                return -2;
            }
            return push(kind, 0, v, 0);
        }

        int combine(String kind, int f, int v, int parts, boolean inRange) {
            if (!inRange) {
                return -1;
            }
            if (made == 24) {
                return -2;
            }
            if (stack.size() < parts) {
                return -3;
            }
            return push(kind, f, v, parts);
        }

        private int push(String kind, int f, int v, int parts) {
            List<Program> taken = stack.subList(stack.size() - parts, stack.size());
            Program p = new Program(kind, f, v, List.copyOf(taken));
            taken.clear();
            stack.add(p);
            made++;
            return stack.size();
        }

        Program top() {
            return stack.get(stack.size() - 1);
        }

        /** Looks at each place with the set of the names that are bound there. */
        static int free(Program p, int bound) {
            if (p.kind.equals("name")) {
                return (1 << p.v) & ~bound;
            }
            int found = 0;
            for (int i = 0; i < p.parts.size(); i++) {
                int here = bound;
                if (p.kind.equals("function")) {
                    here |= 1 << p.f | 1 << p.v;
                } else if (p.kind.equals("bind") && i == 1) {
                    here |= 1 << p.v;
                }
                found |= free(p.parts.get(i), here);
            }
            return found;
        }
    }

    public static void main(String[] args) {
        for (int object = 0; object < OBJECTS && wrong < 20; object++) {
            compareOneObject(object);
        }
        for (int end = 0; end < ENDS.length; end++) {
            if (ENDS[end] < 1000) {
                wrong++;
                System.out.println("only " + ENDS[end] + " runs ended with " + end + ": the test has gone blunt");
            }
        }
        System.out.println(wrong == 0 ? "all answers are as due" : wrong + " answers are not as due");
        if (wrong != 0) {
            System.exit(1);
        }
    }

    private static int below(int bound) {
        seed = seed * 6364136223846793005L + 1442695040888963407L;
        return (int) ((seed >>> 33) % bound);
    }

    private static void due(int object, String calls, String call, int got, int want) {
        if (got != want) {
            wrong++;
            String where = "object " + object + ": after " + calls + " ";
            System.out.println(where + call + " answered " + got + ", due is " + want);
        }
    }

    /** A call that makes a program: its method and its arguments. */
    private record Call(String method, int a, int b) {
        @Override
        public String toString() {
            return method + "(" + a + ", " + b + ")";
        }
    }

    private static void compareOneObject(int object) {
        ClosureCompiler x = new ClosureCompiler();
        Model model = new Model();
        StringBuilder calls = new StringBuilder();
        // Some objects use few names, so that programs hang together more often.
        int names = 1 + below(4);
        boolean wild = below(4) == 0;
        List<Call> planned = new ArrayList<>();
        int used = 0;
        while (used < CALLS_PER_OBJECT - 9 && wrong < 20) {
            if (model.made == 24 && below(3) == 0) {
                x.discard();
                model = new Model();
                calls.setLength(0);
                planned.clear();
                used++;
                if (below(2) == 0) {
                    plan(planned, 12 + below(13), 0);
                }
            }
            Call call = planned.isEmpty() ? someCall(names, wild) : planned.remove(0);
            due(object, calls.toString(), call.toString(), make(x, call), make(model, call));
            calls.append(call).append(' ');
            used++;
            if (below(3) == 0 || model.made >= 22) {
                compareQueries(object, x, model, calls.toString());
                used += 7;
            }
        }
    }

    /** Plans a program of about so many parts, most of whose names mean something and whose functions are called. */
    private static void plan(List<Call> planned, int size, int bound) {
        if (size < 3) {
            planned.add(below(3) == 0 || bound == 0
                ? new Call("number", below(19) - 9, 0) : new Call("name", someBound(bound), 0));
            return;
        }
        int first = 1 + below(size - 2);
        switch (below(8)) {
            case 0:
            case 1:
            case 2:
                planCall(planned, size, bound);
                break;
            case 3:
                int v = below(4);
                plan(planned, first, bound);
                plan(planned, size - 1 - first, bound | 1 << v);
                planned.add(new Call("bind", v, 0));
                break;
            case 4:
                plan(planned, size / 4, bound);
                plan(planned, size / 3, bound);
                plan(planned, size / 3, bound);
                planned.add(new Call("choose", 0, 0));
                break;
            case 5:
                planFunction(planned, size, bound);
                break;
            default:
                plan(planned, first, bound);
                plan(planned, size - 1 - first, bound);
                planned.add(new Call("two", below(5), 0));
                break;
        }
    }

    private static void planCall(List<Call> planned, int size, int bound) {
        int forArgument = 1 + below(size / 2);
        if (bound != 0 && below(3) != 0) {
            planned.add(new Call("name", someBound(bound), 0));
        } else {
            planFunction(planned, size - 1 - forArgument, bound);
        }
        plan(planned, forArgument, bound);
        planned.add(new Call("two", 4, 0));
    }

    private static void planFunction(List<Call> planned, int size, int bound) {
        int f = below(4);
        int v = below(4);
        plan(planned, size - 1, bound | 1 << f | 1 << v);
        planned.add(new Call("function", f, v));
    }

    private static int someBound(int bound) {
        int v = below(4);
        while ((bound >> v & 1) == 0) {
            v = (v + 1) % 4;
        }
        return v;
    }

    private static Call someCall(int names, boolean wild) {
        int v = someName(names, wild);
        int f = someName(names, wild);
        switch (below(11)) {
            case 0:
            case 1:
                return new Call("number", wild ? below(25) - 12 : below(19) - 9, 0);
            case 2:
            case 3:
            case 4:
                return new Call("name", v, 0);
            case 5:
            case 6:
            case 7:
                return new Call("two", wild ? below(8) - 1 : below(5), 0);
            case 8:
                return new Call("choose", 0, 0);
            case 9:
                return new Call("bind", v, 0);
            default:
                return new Call("function", f, v);
        }
    }

    /** Mostly a name in range; a wild one may be any int close to an edge. */
    private static int someName(int names, boolean wild) {
        if (wild && below(10) == 0) {
            int[] edges = {-1, 4, Integer.MIN_VALUE, Integer.MAX_VALUE, 32, -32};
            return edges[below(edges.length)];
        }
        return below(names);
    }

    private static int make(ClosureCompiler x, Call call) {
        return switch (call.method) {
            case "number" -> x.number(call.a);
            case "name" -> x.name(call.a);
            case "two" -> x.two(call.a);
            case "choose" -> x.choose();
            case "bind" -> x.bind(call.a);
            default -> x.function(call.a, call.b);
        };
    }

    private static int make(Model m, Call call) {
        boolean isName = 0 <= call.a && call.a <= 3;
        boolean isOp = 0 <= call.a && call.a <= 4;
        return switch (call.method) {
            case "number" -> m.leaf("number", call.a, -9 <= call.a && call.a <= 9);
            case "name" -> m.leaf("name", call.a, isName);
            case "two" -> m.combine(isOp ? Model.TWOS[call.a] : "", 0, 0, 2, isOp);
            case "choose" -> m.combine("choose", 0, 0, 3, true);
            case "bind" -> m.combine("bind", 0, call.a, 2, isName);
            default -> m.combine("function", call.a, call.b, 1, isName && 0 <= call.b && call.b <= 3);
        };
    }

    private static void compareQueries(int object, ClosureCompiler x, Model m, String calls) {
        due(object, calls, "depth()", x.depth(), m.stack.size());
        due(object, calls, "made()", x.made(), m.made);
        if (m.stack.isEmpty()) {
            due(object, calls, "run()", x.run(), -4);
            due(object, calls, "value()", x.value(), 0);
            due(object, calls, "calls()", x.calls(), 0);
            due(object, calls, "closures()", x.closures(), 0);
            due(object, calls, "free()", x.free(), -4);
            return;
        }
        Run run = new Run(m.top());
        ENDS[run.end]++;
        due(object, calls, "run()", x.run(), run.end);
        due(object, calls, "value()", x.value(), run.value);
        due(object, calls, "calls()", x.calls(), run.calls);
        due(object, calls, "closures()", x.closures(), run.closures);
        due(object, calls, "free()", x.free(), Model.free(m.top(), 0));
    }
}
