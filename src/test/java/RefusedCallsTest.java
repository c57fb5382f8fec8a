import java.util.ArrayList;
import java.util.Arrays;
import java.util.List;
import java.util.Set;
import java.util.TreeSet;

/**
 * A call that reports an error changes nothing: after each refused call, and after each call that only asks, an
 * object answers as one on which that call was not made, of its cells, its draft and its saved set.
 */
public final class RefusedCallsTest {
    private static final Checks CHECKS = new Checks();
    private static final int[] SOME = {Integer.MIN_VALUE, -1, 0, 1, 2, 3, 4, 5, 6, 7, 48, Integer.MAX_VALUE};
    private static final Set<String> CHANGING = Set.of("addVertex", "beginCell", "setFace", "endCell", "clear",
            "loadSimplex", "loadSphere", "save", "product");
    /** All errors that the document names, and NONE, each with the call that answers it. */
    private static final String[] ERRORS = {
        "addVertex FULL", "beginCell BAD_DIMENSION",
        "setFace NO_DRAFT", "setFace BAD_INDEX", "setFace NO_SUCH_CELL", "setFace BAD_MASK",
        "endCell NO_DRAFT", "endCell INCOMPLETE", "endCell IDENTITY", "endCell FULL",
        "cellCount BAD_DIMENSION", "dimension NO_SUCH_CELL",
        "faceCell NO_SUCH_CELL", "faceCell BAD_DIMENSION", "faceCell BAD_MASK", "faceCell BAD_INDEX",
        "faceMask NO_SUCH_CELL", "faceMask BAD_DIMENSION", "faceMask BAD_MASK", "faceMask BAD_INDEX",
        "degeneracyMask NO_SUCH_CELL", "degeneracyMask BAD_DIMENSION", "degeneracyMask BAD_MASK",
        "degeneracyMask BAD_INDEX",
        "vertex NO_SUCH_CELL", "vertex BAD_DIMENSION", "vertex BAD_MASK", "vertex BAD_INDEX",
        "simplexCount BAD_DIMENSION", "incidence NO_SUCH_CELL", "betti BAD_DIMENSION", "torsionCount BAD_DIMENSION",
        "torsion BAD_DIMENSION", "torsion BAD_INDEX", "torsion NONE", "hornCount BAD_INDEX", "unfilledCount BAD_INDEX",
        "loadSimplex BAD_DIMENSION", "loadSphere BAD_DIMENSION", "product BAD_DIMENSION", "product FULL"
    };
    private static final String[] NAMES = {
        "NO_SUCH_CELL", "BAD_DIMENSION", "BAD_MASK", "BAD_INDEX", "FULL", "NO_DRAFT", "INCOMPLETE", "IDENTITY", "NONE"
    };

    /** A call with its arguments. */
    private record Call(String name, int... arguments) { }

    /** The states in which the calls are made; the draft, if there is one, is of dimension 2. */
    private enum State { NEW, NO_DRAFT, INCOMPLETE, WRONG, WHOLE, FULL, FULL_AND_WRONG, DIMENSION_FOUR_SAVED }

    public static void main(String[] args) {
        List<Call> calls = calls();
        Set<String> seen = new TreeSet<>();
        for (State state : State.values()) {
            List<Long> undisturbed = reveal(reach(state), state);
            for (Call call : calls) {
                tryCall(state, call, undisturbed, seen);
            }
        }
        CHECKS.part("errors that were seen");
        Set<String> due = new TreeSet<>(Arrays.asList(ERRORS));
        CHECKS.holds("they are " + seen + ", due are " + due, seen.equals(due));
        CHECKS.finish();
    }

    private static void tryCall(State state, Call call, List<Long> undisturbed, Set<String> seen) {
        Calls x = reach(state);
        long answer = x.ask(call.name, call.arguments);
        boolean isNumbered = answer >= SimplicialSet.NONE && answer <= SimplicialSet.NO_SUCH_CELL;
        if (isNumbered) {
            seen.add(call.name + " " + NAMES[(int) (SimplicialSet.NO_SUCH_CELL - answer)]);
        }
        if (isNumbered || !CHANGING.contains(call.name)) {
            CHECKS.part("state " + state + ", after " + Calls.text(call.name, call.arguments));
            CHECKS.holds("all answers are as without the call", reveal(x, state).equals(undisturbed));
        }
    }

    // ---- the states

    private static Calls reach(State state) {
        Calls x = new Calls(CHECKS);
        if (state == State.NEW) {
            return x;
        }
        if (state == State.DIMENSION_FOUR_SAVED) {
            x.due(2, "loadSphere", 4).due(2, "save");
        } else {
            saveProjectivePlane(x);
        }
        x.due(7, "loadSimplex", 2);
        if (state == State.FULL || state == State.FULL_AND_WRONG) {
            x.vertices(41);
        }
        if (state != State.NO_DRAFT) {
            beginDraft(x, state);
        }
        return x;
    }

    private static void saveProjectivePlane(Calls x) {
        x.vertices(1);
        x.sphere(1);
        x.cell(1, 1, 0, 0, 1, 1);
        x.due(3, "save");
    }

    private static void beginDraft(Calls x, State state) {
        x.due(1, "beginCell", 2).due(1, "setFace", 0, 5, 1).due(1, "setFace", 2, 3, 1);
        if (state == State.WRONG || state == State.FULL_AND_WRONG) {
            x.due(1, "setFace", 1, 3, 1);
        } else if (state != State.INCOMPLETE) {
            x.due(1, "setFace", 1, 4, 1);
        }
    }

    // ---- what can be seen

    /** The cells, then the draft, which is mended and stored if there is room, then the saved set. */
    private static List<Long> reveal(Calls x, State state) {
        List<Long> seen = new ArrayList<>();
        int before = x.made();
        lookAtCells(x, seen);
        seen.add(x.ask("endCell"));
        seen.add(x.ask("setFace", 3, 0, 0));
        seen.add(x.ask("setFace", 1, 4, 1));
        seen.add(x.ask("endCell"));
        lookAtCells(x, seen);
        seen.add(x.ask("loadSimplex", 0));
        seen.add(x.ask("product"));
        lookAtCells(x, seen);
        CHECKS.holds("something was asked in state " + state, x.made() > before + 20);
        return seen;
    }

    private static void lookAtCells(Calls x, List<Long> seen) {
        for (int m = 0; m <= 4; m++) {
            seen.add(x.ask("cellCount", m));
        }
        seen.add(x.ask("betti", 1));
        seen.add(x.ask("torsion", 1, 0));
        seen.add(x.ask("unfilledCount", 0));
        // Of a full set the cells above 9 are vertices; their number has been seen.
        long m = x.ask("dimension", 0);
        for (int cell = 0; cell < 10 && m >= 0; cell++) {
            seen.add(m);
            for (int k = 0; m > 0 && k <= m; k++) {
                seen.add(x.ask("faceCell", cell, (int) m, (1 << m) - 1, k));
                seen.add(x.ask("faceMask", cell, (int) m, (1 << m) - 1, k));
            }
            m = x.ask("dimension", cell + 1);
        }
        seen.add(m);
    }

    // ---- the calls

    private static List<Call> calls() {
        List<Call> calls = new ArrayList<>();
        for (String name : new String[] {"addVertex", "endCell", "clear", "eulerCharacteristic", "partCount", "save", "product"}) {
            calls.add(new Call(name));
        }
        for (int some : SOME) {
            for (String name : new String[] {"beginCell", "cellCount", "dimension", "simplexCount", "betti", "torsionCount",
                    "hornCount", "unfilledCount", "loadSimplex", "loadSphere"}) {
                calls.add(new Call(name, some));
            }
            for (int other : SOME) {
                calls.add(new Call("incidence", some, other));
                calls.add(new Call("torsion", some, other));
            }
        }
        addFaces(calls);
        for (String name : new String[] {"faceCell", "faceMask", "degeneracyMask", "vertex"}) {
            addSimplices(calls, name);
        }
        return calls;
    }

    private static void addFaces(List<Call> calls) {
        for (int k : new int[] {Integer.MIN_VALUE, -1, 0, 1, 2, 3, 5, Integer.MAX_VALUE}) {
            for (int cell : new int[] {Integer.MIN_VALUE, -1, 0, 3, 6, 7, 48, Integer.MAX_VALUE}) {
                for (int mask : new int[] {Integer.MIN_VALUE, -1, 0, 1, 2, 3, Integer.MAX_VALUE}) {
                    calls.add(new Call("setFace", k, cell, mask));
                }
            }
        }
    }

    private static void addSimplices(List<Call> calls, String name) {
        for (int cell : new int[] {-1, 0, 6, 48}) {
            for (int n : new int[] {-1, 0, 2, 6, 7}) {
                for (int mask : new int[] {-1, 0, 3, 33, 64}) {
                    for (int place : new int[] {-1, 0, 2, 7}) {
                        calls.add(new Call(name, cell, n, mask, place));
                    }
                }
            }
        }
    }
}
