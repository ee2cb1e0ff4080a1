import java.util.Random;

/** Runs of calls drawn by lot (always the same ones), each answered by the class and by the Model. */
final class ModelTest {
    private static final int RUNS = 260;
    private static final int CALLS = 500;
    private static final int[] FAR = {Integer.MIN_VALUE, Integer.MIN_VALUE + 1, -1000, -2, -1, 41, 73, 100, 256,
        Integer.MAX_VALUE - 1, Integer.MAX_VALUE};

    private final Due due;
    private final Random lot;
    private final int run;
    private final SolidsRolled real = new SolidsRolled();
    private final Model model = new Model();
    private final boolean small;
    private int calls = 0;

    private ModelTest(Due due, int run) {
        this.due = due;
        this.run = run;
        lot = new Random(4711 + run);
        small = run % 8 != 0;
    }

    public static void main(String[] args) {
        Due due = new Due("ModelTest");
        for (int run = 0; run < RUNS; run++) {
            ModelTest each = new ModelTest(due, run);
            while (each.calls < CALLS) {
                each.step();
            }
        }
        due.end();
    }

    private int below(int n) {
        return lot.nextInt(n);
    }

    /** Mostly 0 .. n - 1, at times just outside or far off. */
    private int about(int n) {
        int draw = below(30);
        if (draw == 0) {
            return FAR[below(FAR.length)];
        }
        return draw == 1 ? n : draw == 2 ? -1 : below(n);
    }

    private int cells() {
        return Math.max(1, model.count(0) * model.count(1) * (model.count(8) >= 4 ? 2 : 1));
    }

    private int tiles() {
        return Math.max(1, model.count(0) * model.count(1));
    }

    private void step() {
        int draw = below(100);
        if (draw < 4) {
            tellBoard();
        } else if (draw < 7) {
            tellWalk();
        } else if (draw < 30) {
            changeBoard(below(9));
        } else if (draw < 55) {
            rolls(below(8));
        } else if (draw < 80) {
            asks(below(14));
        } else if (draw < 97) {
            rows(below(12));
        } else {
            images(below(3));
        }
        tellAll();
    }

    private void letter(int c) {
        due.is(run + "." + calls + " letter " + c, real.letter(c), model.letter(c));
        calls++;
    }

    private void is(String call, long got, long want) {
        due.is(run + "." + calls + " " + call, got, want);
        calls++;
    }

    private void tellBoard() {
        int most = small ? 4 : 6;
        int rows = 1 + below(most);
        int columns = 1 + below(most);
        int sort = below(4);
        for (int row = 0; row < rows; row++) {
            for (int column = 0; column < columns; column++) {
                int draw = below(20);
                letter(sort > 0 && draw < 4 ? '#' : sort > 1 && draw < 7 ? '~' : '.');
            }
            if (below(60) > 0) {
                letter(below(60) > 0 ? ';' : '.');
            }
        }
        if (below(12) == 0) {
            letter(".#~;x;".charAt(below(6)));
        }
        is("board", real.board(), model.board());
    }

    private void tellWalk() {
        int n = below(12);
        for (int i = 0; i < n; i++) {
            letter(below(40) > 0 ? "urdl".charAt(below(4)) : 'x');
        }
        is("judge", real.judge(), model.judge());
        if (below(3) > 0) {
            is("walks", real.walks(), model.walks());
        }
    }

    private void changeBoard(int draw) {
        int a = about(tiles());
        int b = about(3);
        switch (draw) {
            case 0:
            case 1:
            case 2:
                is("tile " + a + " " + b, real.tile(a, b), model.tile(a, b));
                break;
            case 3:
                is("of " + a + " " + b, real.of(a, b), model.of(a, b));
                break;
            case 4:
            case 5:
                int kind = about(6);
                int place = about(kind >= 4 ? 2 * tiles() : tiles());
                is("places " + kind + " " + place, real.places(kind, place), model.places(kind, place));
                break;
            case 6:
                is("ink " + b, real.ink(b), model.ink(b));
                break;
            case 7:
                if (below(3) == 0) {
                    is("wipes", real.wipes(), model.wipes());
                }
                break;
            default:
                int c = below(8) == 0 ? about(256) : "urdl.#~;".charAt(below(8));
                letter(c);
        }
    }

    private void rolls(int draw) {
        if (draw < 5) {
            int way = about(4);
            is("roll " + way, real.roll(way), model.roll(way));
        } else if (draw == 5) {
            is("undo", real.undo(), model.undo());
        } else if (draw == 6) {
            is("ways", real.ways(), model.ways());
        } else {
            is("judge", real.judge(), model.judge());
        }
    }

    private void asks(int draw) {
        int place = about(cells());
        int face = about(model.count(8) >= 4 ? 4 : 6);
        int what = about(2);
        switch (draw) {
            case 0:
            case 1:
                int which = about(4);
                is("reached " + which, real.reached(which), model.reached(which));
                break;
            case 2:
            case 3:
                int any = below(3) == 0 ? -1 : face;
                is("soonest " + place + " " + any, real.soonest(place, any), model.soonest(place, any));
                break;
            case 4:
            case 5:
                int goal = below(2) == 0 ? -1 : face;
                int i = about(5);
                is("walk " + place + " " + goal + " " + i, real.walk(place, goal, i), model.walk(place, goal, i));
                break;
            case 6:
                is("faces " + place, real.faces(place), model.faces(place));
                break;
            case 7:
                if (small || below(6) == 0) {
                    is("fill " + what, real.fill(what), model.fill(what));
                }
                break;
            case 8:
                if (small || below(6) == 0) {
                    is("needed " + place, real.needed(place), model.needed(place));
                }
                break;
            case 9:
            case 10:
                int tile = about(tiles());
                is("paint " + tile + " " + face, real.paint(tile, face), model.paint(tile, face));
                break;
            case 11:
                int n = below(4) == 0 ? about(13) : below(5);
                is("likely " + n + " " + place + " " + what, real.likely(n, place, what), model.likely(n, place, what));
                break;
            default:
                int times = about(51);
                int z = lot.nextInt();
                is("lots " + times + " " + z + " " + what, real.lots(times, z, what), model.lots(times, z, what));
        }
    }

    private void rows(int draw) {
        int row = about(3);
        int i = below(2) == 0 ? 0 : about(10);
        int what = about(2);
        switch (draw) {
            case 0:
                int n = below(2) == 0 ? tiles() : about(41);
                is("list " + row + " " + n, real.list(row, n), model.list(row, n));
                break;
            case 1:
            case 2:
                int v = below(8) - 1;
                is("put " + row + " " + i + " " + v, real.put(row, i, v), model.put(row, i, v));
                break;
            case 3:
                is("look " + row + " " + i, real.look(row, i), model.look(row, i));
                break;
            case 4:
            case 5:
                is("lays " + row + " " + i, real.lays(row, i), model.lays(row, i));
                break;
            case 6:
                is("tells " + row, real.tells(row), model.tells(row));
                break;
            case 7:
                int kind = about(6);
                int size = about(10);
                is("rack " + row + " " + kind + " " + size, real.rack(row, kind, size), model.rack(row, kind, size));
                break;
            case 8:
            case 9:
                is("racks " + row + " " + i + " " + what, real.racks(row, i, what), model.racks(row, i, what));
                break;
            case 10:
                is("racked " + row + " " + i + " " + what, real.racked(row, i, what), model.racked(row, i, what));
                break;
            default:
                int other = about(3);
                is("like " + row + " " + other, real.like(row, other), model.like(row, other));
        }
    }

    private void images(int draw) {
        if (draw == 0) {
            is("image", real.image(), model.image());
        } else if (draw == 1) {
            is("on", real.on(), model.on());
        } else {
            int what = about(10);
            is("count " + what, real.count(what), model.count(what));
            is("solid " + what, real.solid(what), model.solid(what));
        }
    }

    /** What can be asked without changing anything but refusals: not counted as calls of the run. */
    private void tellAll() {
        String at = run + "." + calls + " then ";
        for (int what = -1; what < 19; what++) {
            due.is(at + "count " + what, real.count(what), model.count(what));
            due.is(at + "solid " + what, real.solid(what), model.solid(what));
        }
        for (int tile = 0; tile < tiles(); tile++) {
            due.is(at + "of " + tile, real.of(tile, 0), model.of(tile, 0));
            due.is(at + "print of " + tile, real.of(tile, 1), model.of(tile, 1));
        }
        for (int row = 0; row < 3; row++) {
            for (int i = 0; i < 40; i++) {
                due.is(at + "look " + row + " " + i, real.look(row, i), model.look(row, i));
            }
            for (int i = 0; i < 9; i++) {
                due.is(at + "racked " + row + " " + i, real.racked(row, i, 0), model.racked(row, i, 0));
                due.is(at + "racked below " + row + " " + i, real.racked(row, i, 1), model.racked(row, i, 1));
            }
        }
    }
}
