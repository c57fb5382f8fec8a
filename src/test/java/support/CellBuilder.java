import java.util.ArrayList;
import java.util.List;
import java.util.Random;

/** Builds cells from chosen faces that mostly satisfy the identities. */
final class CellBuilder {
    private final Twins twins;
    private final Random random;
    private final int slips;

    /** One in so many choices is a slip: a face that need not fit, or a draft ended too early. */
    CellBuilder(Twins twins, Random random, int slips) {
        this.twins = twins;
        this.random = random;
        this.slips = slips;
    }

    private boolean slip() {
        return random.nextInt(slips) == 0;
    }

    /** Builds a cell of dimension m in a set that has a vertex. */
    void build(int m) {
        twins.beginCell(m);
        List<Model.Simplex> candidates = Model.simplices(twins.model.cells, m - 1);
        List<Model.Simplex> faces = new ArrayList<>();
        for (int k = 0; k <= m; k++) {
            Model.Simplex face = fittingFace(candidates, faces);
            faces.add(face);
            twins.setFace(k, face.cell, face.mask());
            if (slip()) {
                twins.endCell();
            }
        }
        twins.endCell();
    }

    /** A face that satisfies the identities with the faces before it, if there is one. */
    private Model.Simplex fittingFace(List<Model.Simplex> candidates, List<Model.Simplex> faces) {
        List<Model.Simplex> fitting = new ArrayList<>();
        int j = faces.size();
        for (Model.Simplex candidate : candidates) {
            boolean fits = true;
            for (int i = 0; i < j && candidate.sequence.length > 1; i++) {
                fits = fits && twins.model.fit(faces.get(i), i, candidate, j);
            }
            if (fits) {
                fitting.add(candidate);
            }
        }
        List<Model.Simplex> chosen = fitting.isEmpty() || slip() ? candidates : fitting;
        return chosen.get(random.nextInt(chosen.size()));
    }
}
