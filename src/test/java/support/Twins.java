/** A new object and the model beside it: every call is made on both, and their answers compared. */
final class Twins {
    private static final int PROMISED_CALLS = 512;

    final SimplicialSet set = new SimplicialSet();
    final Model model = new Model();
    private final Checks checks;
    int calls = 0;

    Twins(Checks checks) {
        this.checks = checks;
    }

    private long same(String call, long got, long want) {
        calls++;
        if (calls > PROMISED_CALLS) {
            checks.holds("a test keeps to " + PROMISED_CALLS + " calls", false);
        }
        checks.due("call " + calls + " " + call, got, want);
        return want;
    }

    private static String text(String name, int... arguments) {
        StringBuilder text = new StringBuilder(name).append('(');
        for (int at = 0; at < arguments.length; at++) {
            text.append(at == 0 ? "" : ", ").append(arguments[at]);
        }
        return text.append(')').toString();
    }

    int addVertex() {
        return (int) same("addVertex()", set.addVertex(), model.addVertex());
    }

    int beginCell(int m) {
        return (int) same(text("beginCell", m), set.beginCell(m), model.beginCell(m));
    }

    int setFace(int k, int cell, int mask) {
        return (int) same(text("setFace", k, cell, mask), set.setFace(k, cell, mask), model.setFace(k, cell, mask));
    }

    int endCell() {
        return (int) same("endCell()", set.endCell(), model.endCell());
    }

    void clear() {
        same("clear()", set.clear(), model.clear());
    }

    void loadSimplex(int n) {
        same(text("loadSimplex", n), set.loadSimplex(n), model.loadSimplex(n));
    }

    void loadSphere(int n) {
        same(text("loadSphere", n), set.loadSphere(n), model.loadSphere(n));
    }

    void save() {
        same("save()", set.save(), model.save());
    }

    int product() {
        return (int) same("product()", set.product(), model.product());
    }

    void cellCount(int n) {
        same(text("cellCount", n), set.cellCount(n), model.cellCount(n));
    }

    void dimension(int cell) {
        same(text("dimension", cell), set.dimension(cell), model.dimension(cell));
    }

    void faceCell(int cell, int n, int mask, int i) {
        same(text("faceCell", cell, n, mask, i), set.faceCell(cell, n, mask, i), model.faceCell(cell, n, mask, i));
    }

    void faceMask(int cell, int n, int mask, int i) {
        same(text("faceMask", cell, n, mask, i), set.faceMask(cell, n, mask, i), model.faceMask(cell, n, mask, i));
    }

    void degeneracyMask(int cell, int n, int mask, int i) {
        same(text("degeneracyMask", cell, n, mask, i),
                set.degeneracyMask(cell, n, mask, i), model.degeneracyMask(cell, n, mask, i));
    }

    void vertex(int cell, int n, int mask, int j) {
        same(text("vertex", cell, n, mask, j), set.vertex(cell, n, mask, j), model.vertex(cell, n, mask, j));
    }

    void simplexCount(int n) {
        same(text("simplexCount", n), set.simplexCount(n), model.simplexCount(n));
    }

    void eulerCharacteristic() {
        same("eulerCharacteristic()", set.eulerCharacteristic(), model.eulerCharacteristic());
    }

    void partCount() {
        same("partCount()", set.partCount(), model.partCount());
    }

    void incidence(int cell, int other) {
        same(text("incidence", cell, other), set.incidence(cell, other), model.incidence(cell, other));
    }

    void betti(int n) {
        same(text("betti", n), set.betti(n), model.betti(n));
    }

    void torsionCount(int n) {
        same(text("torsionCount", n), set.torsionCount(n), model.torsionCount(n));
    }

    long torsion(int n, int k) {
        return same(text("torsion", n, k), set.torsion(n, k), model.torsion(n, k));
    }

    void hornCount(int k) {
        same(text("hornCount", k), set.hornCount(k), model.hornCount(k));
    }

    void unfilledCount(int k) {
        same(text("unfilledCount", k), set.unfilledCount(k), model.unfilledCount(k));
    }

    /** Asks for all that can be seen of the cells: numbers and invariants, then faces while calls are left. */
    void lookAround() {
        for (int n = 0; n <= 4; n++) {
            cellCount(n);
            simplexCount(n);
            betti(n);
            torsionCount(n);
            torsion(n, 0);
        }
        for (int k = 0; k <= 2; k++) {
            hornCount(k);
            unfilledCount(k);
        }
        eulerCharacteristic();
        partCount();
        // The cells of the greatest dimension come last and have the most faces: they are asked first.
        for (int cell = model.cells.size() - 1; cell >= 0; cell--) {
            lookAt(cell);
        }
    }

    private void lookAt(int cell) {
        int m = model.cells.get(cell).dimension;
        if (calls + 2 * m + 3 > PROMISED_CALLS) {
            return;
        }
        dimension(cell);
        for (int i = 0; m > 0 && i <= m; i++) {
            faceCell(cell, m, (1 << m) - 1, i);
            faceMask(cell, m, (1 << m) - 1, i);
        }
    }
}
