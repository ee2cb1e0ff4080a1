import java.util.ArrayList;
import java.util.List;
import java.util.TreeSet;

/** A solid as it lies, told by its geometry alone: corners and cubelets that are turned about an edge. */
abstract class Pose {
    /** The pose behind a roll over an edge, wherever that is; null if there is no such edge. */
    abstract Pose rolled(int way);

    /** Rows and columns of the tiles under it. */
    abstract TreeSet<Integer> rowsAndColumns();

    abstract int below();

    abstract int positionOf(int face);

    abstract int place(int columns);

    abstract boolean stands();

    abstract String key();

    static int cell(int row, int column) {
        return row * 1000 + column;
    }

    static Pose placed(int kind, int place, int columns) {
        if (kind >= 4) {
            return new Tetra(place / (2 * columns), place % (2 * columns), 3, 2, 1, 0);
        }
        List<int[]> cubelets = new ArrayList<>();
        for (int height = 0; height <= kind / 2; height++) {
            cubelets.add(new int[] {place / columns, place % columns, height});
        }
        return new Box(cubelets, new int[][] {{0, 0, 1}, {0, 0, -1}, {-1, 0, 0}, {0, 1, 0}, {1, 0, 0}, {0, -1, 0}});
    }

    /** One cubelet or two, and the direction to which each face looks. */
    static final class Box extends Pose {
        private static final int[][] POSITIONS =
            {{0, 0, 1}, {0, 0, -1}, {-1, 0, 0}, {0, 1, 0}, {1, 0, 0}, {0, -1, 0}};
        private final List<int[]> cubelets;
        private final int[][] looks;

        Box(List<int[]> cubelets, int[][] looks) {
            this.cubelets = cubelets;
            this.looks = looks;
        }

        private static int[] turned(int[] v, int way) {
            switch (way) {
                case 0:
                    return new int[] {-v[2], v[1], v[0]};
                case 1:
                    return new int[] {v[0], v[2], -v[1]};
                case 2:
                    return new int[] {v[2], v[1], -v[0]};
                default:
                    return new int[] {v[0], -v[2], v[1]};
            }
        }

        /** The edge stands half a tile beyond the outermost cubelet; doubled numbers keep it whole. */
        @Override
        Pose rolled(int way) {
            int axis = way % 2 == 0 ? 0 : 1;
            boolean more = way == 1 || way == 2;
            int outer = cubelets.get(0)[axis];
            for (int[] each : cubelets) {
                outer = more ? Math.max(outer, each[axis]) : Math.min(outer, each[axis]);
            }
            int edge = 2 * outer + (more ? 1 : -1);
            List<int[]> moved = new ArrayList<>();
            for (int[] each : cubelets) {
                int[] arm = {2 * each[0], 2 * each[1], 2 * each[2] + 1};
                arm[axis] -= edge;
                int[] turned = turned(arm, way);
                turned[axis] += edge;
                moved.add(new int[] {turned[0] / 2, turned[1] / 2, (turned[2] - 1) / 2});
                if (Math.floorMod(turned[axis], 2) != 0 || turned[2] < 0) {
                    throw new IllegalStateException("not on a tile");
                }
            }
            int[][] newLooks = new int[looks.length][];
            for (int face = 0; face < looks.length; face++) {
                newLooks[face] = turned(looks[face], way);
            }
            return new Box(moved, newLooks);
        }

        @Override
        TreeSet<Integer> rowsAndColumns() {
            TreeSet<Integer> found = new TreeSet<>();
            for (int[] each : cubelets) {
                found.add(cell(each[0], each[1]));
            }
            return found;
        }

        @Override
        int below() {
            for (int face = 0; face < looks.length; face++) {
                if (positionOf(face) == 1) {
                    return face;
                }
            }
            throw new IllegalStateException();
        }

        @Override
        int positionOf(int face) {
            for (int position = 0; position < POSITIONS.length; position++) {
                if (java.util.Arrays.equals(looks[face], POSITIONS[position])) {
                    return position;
                }
            }
            throw new IllegalStateException();
        }

        @Override
        int place(int columns) {
            int least = Integer.MAX_VALUE;
            for (int[] each : cubelets) {
                least = Math.min(least, each[0] * columns + each[1]);
            }
            return least;
        }

        @Override
        boolean stands() {
            return rowsAndColumns().size() == 1;
        }

        @Override
        String key() {
            StringBuilder text = new StringBuilder(rowsAndColumns().toString());
            for (int face = 0; face < looks.length; face++) {
                text.append(positionOf(face));
            }
            return text.toString();
        }
    }

    /**
     * Four corners: left, right and middle (above or below the level edge) on the floor, and the tip; a face is
     * named as the corner that it hasn't.
     */
    static final class Tetra extends Pose {
        private final int row;
        private final int k;
        private final int middle;
        private final int left;
        private final int right;
        private final int tip;

        Tetra(int row, int k, int middle, int left, int right, int tip) {
            this.row = row;
            this.k = k;
            this.middle = middle;
            this.left = left;
            this.right = right;
            this.tip = tip;
        }

        boolean pointsUp() {
            return (row + k) % 2 == 0;
        }

        /** The two corners of the edge stay, the third becomes the tip, and the tip the third corner. */
        @Override
        Pose rolled(int way) {
            switch (way) {
                case 1:
                    return new Tetra(row, k + 1, right, middle, tip, left);
                case 3:
                    return new Tetra(row, k - 1, left, tip, middle, right);
                case 0:
                    return pointsUp() ? null : new Tetra(row - 1, k, tip, left, right, middle);
                default:
                    return pointsUp() ? new Tetra(row + 1, k, tip, left, right, middle) : null;
            }
        }

        @Override
        TreeSet<Integer> rowsAndColumns() {
            TreeSet<Integer> found = new TreeSet<>();
            found.add(cell(row, Math.floorDiv(k, 2)));
            return found;
        }

        @Override
        int below() {
            return tip;
        }

        @Override
        int positionOf(int face) {
            return face == tip ? 0 : face == right ? 1 : face == left ? 2 : 3;
        }

        @Override
        int place(int columns) {
            return row * 2 * columns + k;
        }

        @Override
        boolean stands() {
            return true;
        }

        @Override
        String key() {
            return row + " " + k + " " + middle + left + right + tip;
        }
    }
}
