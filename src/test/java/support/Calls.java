/** A new object whose calls are made by their names, counted, and compared with the answers that are due. */
final class Calls {
    private static final int PROMISED_CALLS = 512;

    private final SimplicialSet set = new SimplicialSet();
    private final Checks checks;
    private int made = 0;

    Calls(Checks checks) {
        this.checks = checks;
    }

    /** An object with vertices alone. */
    static Calls withVertices(Checks checks, int count) {
        return new Calls(checks).vertices(count);
    }

    /** A vertex 0 and the cells 1 to 4, each of the dimension of its number, with faces over the vertex alone. */
    static Calls oneOfEach(Checks checks) {
        Calls x = withVertices(checks, 1);
        for (int m = 1; m <= 4; m++) {
            x.sphere(m);
        }
        return x;
    }

    /** A cell of dimension m without faces on others: all of them lie over the vertex 0. */
    long sphere(int m) {
        return cell(new int[2 * m + 2]);
    }

    /** Builds a cell from its faces, each given as a cell and a mask; answers what endCell does. */
    long cell(int... cellsAndMasks) {
        due(1, "beginCell", cellsAndMasks.length / 2 - 1);
        faces(cellsAndMasks);
        return ask("endCell");
    }

    /** Sets the faces from 0 on in the draft. */
    Calls faces(int... cellsAndMasks) {
        for (int k = 0; 2 * k < cellsAndMasks.length; k++) {
            due(1, "setFace", k, cellsAndMasks[2 * k], cellsAndMasks[2 * k + 1]);
        }
        return this;
    }

    Calls vertices(int count) {
        for (int each = 0; each < count; each++) {
            ask("addVertex");
        }
        return this;
    }

    Calls due(long want, String name, int... a) {
        checks.due("call " + (made + 1) + " " + text(name, a), ask(name, a), want);
        return this;
    }

    /** Makes a call that must not be refused; which answer it gives is seen elsewhere. */
    void allowed(String name, int... a) {
        long answer = ask(name, a);
        checks.holds(text(name, a) + " answered " + answer + " and is allowed", answer >= 0);
    }

    long ask(String name, int... a) {
        made++;
        if (made > PROMISED_CALLS) {
            checks.holds("a test keeps to " + PROMISED_CALLS + " calls", false);
        }
        return answer(name, a);
    }

    int made() {
        return made;
    }

    static String text(String name, int... a) {
        StringBuilder text = new StringBuilder(name).append('(');
        for (int at = 0; at < a.length; at++) {
            text.append(at == 0 ? "" : ", ").append(a[at]);
        }
        return text.append(')').toString();
    }

    private long answer(String name, int[] a) {
        return switch (name) {
            case "addVertex" -> set.addVertex();
            case "beginCell" -> set.beginCell(a[0]);
            case "setFace" -> set.setFace(a[0], a[1], a[2]);
            case "endCell" -> set.endCell();
            case "clear" -> set.clear();
            case "cellCount" -> set.cellCount(a[0]);
            case "dimension" -> set.dimension(a[0]);
            case "faceCell" -> set.faceCell(a[0], a[1], a[2], a[3]);
            case "faceMask" -> set.faceMask(a[0], a[1], a[2], a[3]);
            case "degeneracyMask" -> set.degeneracyMask(a[0], a[1], a[2], a[3]);
            case "vertex" -> set.vertex(a[0], a[1], a[2], a[3]);
            case "simplexCount" -> set.simplexCount(a[0]);
            case "eulerCharacteristic" -> set.eulerCharacteristic();
            case "partCount" -> set.partCount();
            case "incidence" -> set.incidence(a[0], a[1]);
            case "betti" -> set.betti(a[0]);
            case "torsionCount" -> set.torsionCount(a[0]);
            case "torsion" -> set.torsion(a[0], a[1]);
            case "hornCount" -> set.hornCount(a[0]);
            case "unfilledCount" -> set.unfilledCount(a[0]);
            case "loadSimplex" -> set.loadSimplex(a[0]);
            case "loadSphere" -> set.loadSphere(a[0]);
            case "save" -> set.save();
            case "product" -> set.product();
            default -> throw new IllegalArgumentException("no call " + name);
        };
    }
}
