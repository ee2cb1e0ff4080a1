import java.util.ArrayList;
import java.util.List;

/**
 * All that can be asked of an object, answer by answer. Asking uses the object up (its rolls are undone, its
 * letters become a board), so that what lies hidden comes to light too. It takes fewer than 320 calls.
 */
final class Tale {
    private static final int REFUSALS = 11;
    private static final int LAST_REFUSALS = 16;

    final List<String> calls = new ArrayList<>();
    final List<Long> answers = new ArrayList<>();
    private final SolidsRolled x;

    /** What an object tells; of its refusals one more of a sort (11 .. 16, or 0) is left out of account. */
    Tale(SolidsRolled x, int oneMore) {
        this.x = x;
        for (int what = REFUSALS; what <= LAST_REFUSALS; what++) {
            add("count " + what, x.count(what) - (what == oneMore ? 1 : 0));
        }
        tellScene();
        tellRows();
        add("judge", x.judge());
        tellUndone();
        add("board", x.board());
        tellScene();
        add("on", x.on());
        tellScene();
        tellRacks();
    }

    private void add(String call, long answer) {
        calls.add(call);
        answers.add(answer);
    }

    private void tellScene() {
        for (int what = 0; what <= 8; what++) {
            add("count " + what, x.count(what));
        }
        for (int what = 0; what <= 15; what++) {
            add("solid " + what, x.solid(what));
        }
        int tiles = x.count(0) * x.count(1);
        for (int tile = 0; tile < tiles; tile++) {
            add("of " + tile, x.of(tile, 0));
            add("print of " + tile, x.of(tile, 1));
        }
    }

    private void tellRows() {
        for (int row = 0; row < 3; row++) {
            for (int i = 0; i < 40; i = i < 3 ? i + 1 : i + 12) {
                add("look " + row + " " + i, x.look(row, i));
            }
            for (int i = 0; i < 9; i += 2) {
                add("racked " + row + " " + i, x.racked(row, i, 0));
                add("racked below " + row + " " + i, x.racked(row, i, 1));
            }
        }
    }

    private void tellUndone() {
        int left = x.count(7);
        for (int i = 0; i < left && i < 21; i++) {
            add("undo", x.undo());
            add("place", x.solid(1));
            add("below", x.solid(2));
            add("printed", x.count(4));
        }
    }

    /** What each rack is made for. */
    private void tellRacks() {
        for (int kind = 0; kind < 6; kind++) {
            add("places " + kind, x.places(kind, 0));
            for (int row = 0; row < 3; row++) {
                add("racks " + row, x.racks(row, 0, 1));
            }
        }
    }
}
