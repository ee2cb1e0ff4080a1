/** Terms, 1: each sentence that names a boundary of THE BOARD, THE SOLID or a ROLL, on both sides of it. */
final class BoardTermsTest extends Calls {
    private static final int[] ROWS_ON = {-1, 0, 1, 0};
    private static final int[] COLUMNS_ON = {0, 1, 0, -1};
    private static final int[] BACK = {DOWN, LEFT, UP, RIGHT};

    public static void main(String[] args) {
        begin("BoardTermsTest");
        rowsAndColumns();
        tilesInRows();
        tilesAndPrints();
        waysAndKinds();
        mayLieOnNoHole();
        mayLieOnCracked();
        blocksMayLieOnBothTiles();
        blocksStandUpOnOneTile();
        cubesRolled();
        blocksOnTheBoard();
        blocksPlacedStanding();
        blocksRolledRound();
        cells();
        tetrasOnTheBoard();
        tetrasRolled();
        tetrasOfBothSides();
        shyAheadOfPrints();
        shyPlacedOnPrints();
        printedOnAllItsTiles();
        placingPrintsNothing();
        noneAndAll();
        end();
    }

    private static String floor(int rows, int columns) {
        return (".".repeat(columns) + ";").repeat(rows);
    }

    // ---- the board

    private static void rowsAndColumns() {
        about("THE BOARD has ROWS and COLUMNS (1 .. 6 each; 4 and 4 at first)");
        SolidsRolled x = new SolidsRolled();
        is("rows at first", x.count(0), 4);
        is("columns at first", x.count(1), 4);
        for (int rows = 1; rows <= 6; rows++) {
            for (int columns = 1; columns <= 6; columns++) {
                is(rows + " by " + columns, told(x = new SolidsRolled(), floor(rows, columns)), rows * columns);
                is("rows", x.count(0), rows);
                is("columns", x.count(1), columns);
                is("the last tile", x.of(rows * columns - 1, 0), FLOOR);
                is("one too many", x.of(rows * columns, 0), -1);
            }
            x = new SolidsRolled();
            is("seven columns", told(x, floor(rows, 7)), -1006);
            is("seven rows", told(x, floor(7, rows)), -1000 - 6 * (rows + 1));
            is("no columns", told(x, ";".repeat(rows)), -1000);
            is("rows stay", x.count(0), 4);
            is("columns stay", x.count(1), 4);
        }
        is("no rows", told(x, ""), -1000);
    }

    private static void tilesInRows() {
        about("TILE t is in row t divided by COLUMNS (cut), column t modulo COLUMNS");
        for (int rows = 1; rows <= 6; rows++) {
            for (int columns = 1; columns <= 6; columns++) {
                for (int way = 0; way < 4; way++) {
                    SolidsRolled x = with(floor(rows, columns), CUBE, 0);
                    for (int tile = 0; tile < rows * columns; tile++) {
                        int row = tile / columns + ROWS_ON[way];
                        int column = tile % columns + COLUMNS_ON[way];
                        boolean on = row >= 0 && row < rows && column >= 0 && column < columns;
                        x.places(CUBE, tile);
                        is("can roll " + way + " from " + tile, x.roll(way) == -3 ? 0 : 1, on ? 1 : 0);
                        is("place " + way + " of " + tile, x.solid(1), on ? row * columns + column : tile);
                    }
                }
            }
        }
    }

    private static void tilesAndPrints() {
        about("each is 0 FLOOR (at first), 1 a HOLE, or 2 CRACKED, and bears a PRINT (or none, at first)");
        SolidsRolled x = new SolidsRolled();
        for (int tile = 0; tile < 16; tile++) {
            is("floor", x.of(tile, 0), FLOOR);
            is("no print", x.of(tile, 1), -9);
        }
        for (int was = 0; was <= 2; was++) {
            for (int what = 0; what <= 2; what++) {
                x.tile(9, was);
                is("was", x.tile(9, what), was);
                is("is", x.of(9, 0), what);
            }
        }
        is("no fourth sort", x.tile(9, 3), -2);
        is("none below", x.tile(9, -1), -2);
        is("cracked still", x.of(9, 0), CRACKED);
    }

    private static void waysAndKinds() {
        about("WAYS: 0 up (a row less), 1 right (a column more), 2 down, 3 left");
        int[] places = {1, 5, 7, 3};
        for (int way = 0; way < 4; way++) {
            SolidsRolled x = with("...;...;...;", CUBE, 4);
            x.roll(way);
            is("way " + way, x.solid(1), places[way]);
        }
        is("no way -1", new SolidsRolled().roll(-1), -2);
        is("no way 4", new SolidsRolled().roll(4), -2);
        about("THE SOLID is of a KIND: 0 CUBE (at first) .. 5 SHY under TETRA");
        SolidsRolled x = new SolidsRolled();
        is("at first", x.solid(0), CUBE);
        for (int kind = 0; kind <= 5; kind++) {
            is("kind " + kind, x.places(kind, 0), 1);
            is("is of it", x.solid(0), kind);
            is("has its faces", x.solid(15), kind < TETRA ? 5 : -2);
        }
        is("no kind 6", x.places(6, 0), -2);
        is("no kind -1", x.places(-1, 0), -2);
        is("stays", x.solid(0), SHY);
    }

    // ---- where it may lie

    private static void mayLieOnNoHole() {
        about("it MAY lie so, if all of these are on THE BOARD, none is a HOLE");
        for (int kind = 0; kind < 6; kind++) {
            int halves = kind < TETRA ? 1 : 2;
            for (int side = 0; side < halves; side++) {
                SolidsRolled x = with("..;..;", kind, 0);
                x.tile(3, HOLE);
                is(kind + " on a hole", x.places(kind, 3 * halves + side), -3);
                x.tile(3, FLOOR);
                is(kind + " on floor", x.places(kind, 3 * halves + side), 1);
            }
        }
        for (int kind : new int[] {CUBE, HEAVY}) {
            for (int way = 0; way < 4; way++) {
                SolidsRolled x = with("...;...;...;", kind, 4);
                int next = 4 + 3 * ROWS_ON[way] + COLUMNS_ON[way];
                x.tile(next, HOLE);
                is(kind + " onto a hole " + way, x.roll(way), -3);
                is("ways but this", x.ways(), 15 - (1 << way));
                x.tile(next, FLOOR);
                is(kind + " onto floor " + way, x.roll(way) >= 0 ? 1 : 0, 1);
            }
        }
        for (int kind : new int[] {TETRA, SHY}) {
            is("onto its own tile's other half", with("#.#;.#.;", kind, 2).ways(), 2);
            is("and back, not onto holes", with("#.#;.#.;", kind, 3).ways(), 8);
            is("a hole above", with("#;.;", kind, 2).roll(UP), -3);
            is("floor above", with(".;.;", kind, 2).roll(UP), 3);
            is("a hole below", with(".;#;", kind, 0).roll(DOWN), -3);
            is("floor below", with(".;.;", kind, 0).roll(DOWN), 3);
            is("a hole to the right", with(".#;", kind, 1).roll(RIGHT), -3);
            is("a hole to the left", with("#.;", kind, 2).roll(LEFT), -3);
            is("floor to the left", with("..;", kind, 2).roll(LEFT), 1);
        }
    }

    private static void mayLieOnCracked() {
        about("none is CRACKED, if it is a HEAVY, or a LONG that doesn't stand");
        for (int kind = 0; kind < 6; kind++) {
            int place = kind < TETRA ? 1 : 2;
            is(kind + " placed on cracked", with(".~;", kind, 0).places(kind, place), kind == HEAVY ? -3 : 1);
        }
        for (int way = 0; way < 4; way++) {
            int next = 4 + 3 * ROWS_ON[way] + COLUMNS_ON[way];
            for (int kind : new int[] {CUBE, HEAVY}) {
                SolidsRolled x = with("...;...;...;", kind, 4);
                x.tile(next, CRACKED);
                is(kind + " onto cracked " + way, x.roll(way) == -3 ? 0 : 1, kind == CUBE ? 1 : 0);
            }
        }
        for (int kind : new int[] {TETRA, SHY}) {
            is(kind + " onto cracked", with(".~;", kind, 1).roll(RIGHT), 2);
            is(kind + " down onto cracked", with(".;~;", kind, 0).roll(DOWN), 3);
        }
        is("heavy from cracked", heavyOnCracked().roll(LEFT), 1);
    }

    /** A heavy one that came back to a tile that has cracked since: rolls look where they go, not where from. */
    private static SolidsRolled heavyOnCracked() {
        SolidsRolled x = with("...;", HEAVY, 0);
        rolls(x, "rr");
        x.tile(1, CRACKED);
        x.undo();
        return x;
    }

    private static void blocksMayLieOnBothTiles() {
        about("It lies on its TILES: a BLOCK that lies on two");
        for (int kind : new int[] {BLOCK, LONG}) {
            for (int way = 0; way < 4; way++) {
                for (int far = 1; far <= 2; far++) {
                    int tile = 12 + far * (5 * ROWS_ON[way] + COLUMNS_ON[way]);
                    SolidsRolled x = with(floor(5, 5), kind, 12);
                    x.tile(tile, HOLE);
                    is(kind + " lies on a hole, " + way + " " + far, x.roll(way), -3);
                    x.tile(tile, CRACKED);
                    is(kind + " on cracked, " + way + " " + far, x.roll(way) == -3 ? 0 : 1, kind == BLOCK ? 1 : 0);
                    x.places(kind, 12);
                    x.tile(tile, FLOOR);
                    is(kind + " on floor, " + way + " " + far, x.roll(way) >= 0 ? 1 : 0, 1);
                }
            }
            for (int tile : new int[] {3, 5}) {
                acrossItsLength(kind, "..;..;..;", DOWN, RIGHT, tile, 3);
            }
            for (int tile : new int[] {4, 5}) {
                acrossItsLength(kind, "...;...;", RIGHT, DOWN, tile, 4);
            }
        }
    }

    /** From tile 0 rolled to lie, then rolled across its length, when one of the two tiles there is as told. */
    private static void acrossItsLength(int kind, String board, int lie, int across, int tile, int place) {
        for (int what = FLOOR; what <= CRACKED; what++) {
            boolean bars = what == HOLE || what == CRACKED && kind == LONG;
            SolidsRolled x = with(board, kind, 0);
            x.roll(lie);
            int before = x.solid(1);
            x.tile(tile, what);
            is(kind + " across onto " + what + " at " + tile, x.roll(across) == -3 ? 0 : 1, bars ? 0 : 1);
            is("its place", x.solid(1), bars ? before : place);
        }
    }

    private static void blocksStandUpOnOneTile() {
        about("one that lies along the WAY on the one next to it (it STANDS then)");
        for (int kind : new int[] {BLOCK, LONG}) {
            for (int way = 0; way < 4; way++) {
                String line = way == RIGHT || way == LEFT ? floor(1, 4) : floor(4, 1);
                int start = way == RIGHT || way == DOWN ? 0 : 3;
                int goal = 3 - start;
                SolidsRolled x = with(line, kind, start);
                x.roll(way);
                x.tile(goal, HOLE);
                is(kind + " stands up on a hole " + way, x.roll(way), -3);
                x.tile(goal, CRACKED);
                is(kind + " stands up on cracked " + way, x.roll(way), 0);
                is("stands", x.solid(4), 1);
                is("place", x.solid(1), goal);
                is("no room to stand up", rolledTwiceOnThree(kind, way), -3);
            }
        }
    }

    private static int rolledTwiceOnThree(int kind, int way) {
        boolean flat = way == RIGHT || way == LEFT;
        SolidsRolled x = with(flat ? floor(1, 3) : floor(3, 1), kind, way == RIGHT || way == DOWN ? 0 : 2);
        is("lies", x.roll(way) >= 0 ? 1 : 0, 1);
        return x.roll(way);
    }

    // ---- how cubes and blocks are rolled

    private static void cubesRolled() {
        about("ROLLED to the right .. bottom is then the face that was right .. To the left, up, down likewise");
        int[] below = {2, 3, 4, 5};
        int[][] round = {{2, 0, 4, 1}, {3, 0, 5, 1}, {4, 0, 2, 1}, {5, 0, 3, 1}};
        for (int kind : new int[] {CUBE, HEAVY}) {
            for (int way = 0; way < 4; way++) {
                SolidsRolled x = with("...;...;...;", kind, 4);
                is("below " + way, x.roll(way), below[way]);
                is("rolled back", x.roll(BACK[way]), 1);
                facesAt(x, 0, 1, 2, 3, 4, 5);
                boolean flat = way == RIGHT || way == LEFT;
                x = with(flat ? floor(1, 5) : floor(5, 1), kind, way == RIGHT || way == DOWN ? 0 : 4);
                for (int i = 0; i < 4; i++) {
                    is("roll " + i + " " + way, x.roll(way), round[way][i]);
                }
                facesAt(x, 0, 1, 2, 3, 4, 5);
                is("beyond", x.roll(way), -3);
            }
        }
    }

    private static void blocksOnTheBoard() {
        about("one that STANDS on two (those next and next but one), one that lies across it on the two next");
        for (int rows = 1; rows <= 5; rows++) {
            for (int columns = 1; columns <= 5; columns++) {
                for (int tile = 0; tile < rows * columns; tile++) {
                    standingRolled(rows, columns, tile);
                }
            }
        }
    }

    private static void standingRolled(int rows, int columns, int tile) {
        int row = tile / columns;
        int column = tile % columns;
        boolean[] can = {row >= 2, column + 2 < columns, row + 2 < rows, column >= 2};
        int[] places = {tile - 2 * columns, tile + 1, tile + columns, tile - 2};
        for (int way = 0; way < 4; way++) {
            SolidsRolled x = with(floor(rows, columns), BLOCK, tile);
            is("can roll " + way + " from " + tile, x.roll(way) == -3 ? 0 : 1, can[way] ? 1 : 0);
            is("place", x.solid(1), can[way] ? places[way] : tile);
            is("tiles", x.solid(3), can[way] ? 2 : 1);
            is("stands", x.solid(4), can[way] ? 0 : 1);
            if (can[way]) {
                lyingRolled(rows, columns, places[way], way, tile);
            }
        }
    }

    /** A block that came to lie at a place by a way from a tile. */
    private static void lyingRolled(int rows, int columns, int place, int by, int tile) {
        int row = place / columns;
        int column = place % columns;
        boolean flat = by == RIGHT || by == LEFT;
        boolean[] can = {row >= 1, column + (flat ? 2 : 1) < columns, row + (flat ? 1 : 2) < rows, column >= 1};
        int[] places = {place - columns, place + (flat ? 2 : 1), place + columns * (flat ? 1 : 2), place - 1};
        for (int way = 0; way < 4; way++) {
            SolidsRolled x = with(floor(rows, columns), LONG, tile);
            x.roll(by);
            boolean up = flat == (way == RIGHT || way == LEFT);
            is("lying at " + place + " can roll " + way, x.roll(way) == -3 ? 0 : 1, can[way] ? 1 : 0);
            is("place", x.solid(1), can[way] ? places[way] : place);
            is("stands", x.solid(4), can[way] && up ? 1 : 0);
            is("tiles", x.solid(3), can[way] && up ? 1 : 2);
        }
    }

    private static void blocksPlacedStanding() {
        about("It is placed standing, as a CUBE is");
        for (int kind : new int[] {BLOCK, LONG}) {
            SolidsRolled x = with("...;...;", kind, 0);
            x.roll(RIGHT);
            is("lies", x.solid(4), 0);
            is("placed where the board ends", x.places(kind, 5), 1);
            is("stands", x.solid(4), 1);
            is("on one tile", x.solid(3), 1);
            facesAt(x, 0, 1, 2, 3, 4, 5);
        }
        about("4 1 a BLOCK that STANDS, 0");
        for (int kind = 0; kind < 6; kind++) {
            is(kind + " stands", with("..;", kind, 0).solid(4), kind == BLOCK || kind == LONG ? 1 : 0);
            is(kind + " lies on", with("..;", kind, 0).solid(3), 1);
        }
    }

    private static void blocksRolledRound() {
        about("With an END below a BLOCK STANDS: its two ENDS are faces 0 and 1");
        for (int kind : new int[] {BLOCK, LONG}) {
            SolidsRolled x = with(floor(1, 6), kind, 0);
            is("lies on face 3", x.roll(RIGHT), 3);
            is("an end to the left", x.solid(11), 5);
            is("and one to the right", x.solid(10), 3);
            is("stands on end 0", x.roll(RIGHT), 0);
            is("lies on face 5", x.roll(RIGHT), 5);
            is("place is the lesser", x.solid(1), 4);
            is("beyond", x.roll(RIGHT), -3);
            x = with("...;...;...;", kind, 0);
            rolls(x, "r");
            is("across it keeps lying", x.roll(DOWN), 4);
            is("lies", x.solid(4), 0);
            is("once more", x.roll(DOWN), 5);
            is("place", x.solid(1), 7);
            is("an end is right still", x.solid(10), 3);
        }
    }

    // ---- tetrahedra

    private static void cells() {
        about("its CELL is twice COLUMNS times the row, twice the column, and the SIDE, together");
        for (int rows = 1; rows <= 6; rows++) {
            for (int columns = 1; columns <= 6; columns++) {
                SolidsRolled x = new SolidsRolled();
                told(x, floor(rows, columns));
                for (int row = 0; row < rows; row++) {
                    for (int k = 0; k < 2 * columns; k++) {
                        int cell = 2 * columns * row + k;
                        is("placed", x.places(k % 3 == 0 ? SHY : TETRA, cell), 1);
                        is("cell", x.solid(1), cell);
                        is("points up", x.solid(5), (row + k) % 2 == 0 ? 1 : 0);
                    }
                }
                is("no more cells", x.places(TETRA, 2 * rows * columns), -1);
            }
        }
        is("a cube points nowhere", with("..;", CUBE, 0).solid(5), 0);
        is("a block points nowhere", with("..;", BLOCK, 0).solid(5), 0);
        about("Its TILE is the one whose half it lies on");
        for (int cell = 0; cell < 12; cell++) {
            for (int tile = 0; tile < 6; tile++) {
                SolidsRolled x = with("...;...;", TETRA, cell);
                is("a hole at " + tile + " under " + cell, x.tile(tile, HOLE), tile == cell / 2 ? -3 : FLOOR);
            }
        }
    }

    private static void tetrasOnTheBoard() {
        about("Down, just if it points up (a row more, the same k); up, just if it points down");
        for (int rows = 1; rows <= 4; rows++) {
            for (int columns = 1; columns <= 4; columns++) {
                for (int cell = 0; cell < 2 * rows * columns; cell++) {
                    tetraRolled(rows, columns, cell);
                }
            }
        }
    }

    private static void tetraRolled(int rows, int columns, int cell) {
        int row = cell / (2 * columns);
        int k = cell % (2 * columns);
        boolean up = (row + k) % 2 == 0;
        boolean[] can = {!up && row > 0, k + 1 < 2 * columns, up && row + 1 < rows, k > 0};
        int[] places = {cell - 2 * columns, cell + 1, cell + 2 * columns, cell - 1};
        int[] below = {3, 2, 3, 1};
        for (int way = 0; way < 4; way++) {
            SolidsRolled x = with(floor(rows, columns), TETRA, cell);
            is("roll " + way + " from " + cell, x.roll(way), can[way] ? below[way] : -3);
            is("cell", x.solid(1), can[way] ? places[way] : cell);
            is("its tile is printed", x.of((can[way] ? places[way] : cell) / 2, 1), can[way] ? below[way] : -9);
        }
    }

    private static void tetrasRolled() {
        about("ROLLED to the right the face that was right is below, left is the one that was below ..");
        for (int kind : new int[] {TETRA, SHY}) {
            int[][] places = {{3, 1, 2, 0}, {2, 0, 3, 1}, {3, 1, 2, 0}, {1, 3, 0, 2}};
            for (int way = 0; way < 4; way++) {
                SolidsRolled x = with("...;...;", kind, way == UP ? 8 : 2);
                is("below", x.roll(way), places[way][0]);
                facesAt(x, places[way]);
                x.wipes();
                is("and back", x.roll(BACK[way]), 0);
                facesAt(x, 0, 1, 2, 3);
            }
            SolidsRolled x = with(floor(1, 3), kind, 0);
            int[] below = {2, 3, 1, 0, 2};
            for (int i = 0; i < 5; i++) {
                is("right " + i, x.roll(RIGHT), below[i]);
                x.wipes();
            }
            is("beyond", x.roll(RIGHT), -3);
        }
    }

    private static void tetrasOfBothSides() {
        about("k being twice the column and the SIDE, it points up, if row and k together are even, else down");
        SolidsRolled x = with("..;..;", TETRA, 0);
        is("up in row 0", x.solid(5), 1);
        x.roll(RIGHT);
        is("down in row 0", x.solid(5), 0);
        is("no way down", x.ways(), 2 + 8);
        x.places(TETRA, 4);
        is("down in row 1", x.solid(5), 0);
        is("up and right", x.ways(), 1 + 2);
        x.places(TETRA, 5);
        is("up in row 1", x.solid(5), 1);
        is("beyond below", x.ways(), 2 + 8);
    }

    private static void shyAheadOfPrints() {
        about("A SHY one isn't ROLLED to a half TILE whose TILE bears a PRINT (also the other half of its own)");
        for (int kind : new int[] {TETRA, SHY}) {
            boolean shy = kind == SHY;
            SolidsRolled x = printedAround(kind, 9, 4);
            is("its own other half", x.ways(), shy ? 2 + 4 : 2 + 4 + 8);
            x = printedAround(kind, 9, 5);
            is("to the right", x.ways(), shy ? 4 + 8 : 2 + 4 + 8);
            x = printedAround(kind, 9, 7);
            is("down", x.ways(), shy ? 2 + 8 : 2 + 4 + 8);
            x = printedAround(kind, 8, 1);
            is("up", x.ways(), shy ? 2 + 8 : 1 + 2 + 8);
            x = printedAround(kind, 8, 3);
            is("to the left", x.ways(), shy ? 1 + 2 : 1 + 2 + 8);
            x = printedAround(kind, 8, 7);
            is("not next to it", x.ways(), 1 + 2 + 8);
            x.wipes();
            is("without prints", x.ways(), 1 + 2 + 8);
        }
    }

    /** On 3 by 3 a solid at a cell, when a cube has printed on one tile. */
    private static SolidsRolled printedAround(int kind, int cell, int tile) {
        SolidsRolled x = with("...;...;...;", CUBE, tile < 3 ? tile + 3 : tile - 3);
        x.roll(tile < 3 ? UP : DOWN);
        is("one print", x.count(4), 1);
        is("there", x.of(tile, 1) == -9 ? 0 : 1, 1);
        x.places(kind, cell);
        return x;
    }

    private static void shyPlacedOnPrints() {
        about("it MAY lie there, if placed");
        SolidsRolled x = printedAround(SHY, 8, 4);
        is("placed on a print", x.solid(1), 8);
        is("and off it", x.roll(UP), 3);
        is("not back onto it", x.roll(DOWN), -3);
        is("onto its print neither", x.roll(RIGHT), -3);
        is("onto the next tile", x.roll(LEFT), 1);
        x.places(SHY, 3);
        is("placed where it printed", x.solid(1), 3);
    }

    // ---- prints

    private static void printedOnAllItsTiles() {
        about("the face below is PRINTED on all its TILES (in place of what they bore), if INK is on");
        SolidsRolled x = with("....;....;", BLOCK, 0);
        x.roll(RIGHT);
        prints(x, -9, 3, 3, -9, -9, -9, -9, -9);
        x.roll(DOWN);
        prints(x, -9, 3, 3, -9, -9, 4, 4, -9);
        x.roll(UP);
        prints(x, -9, 3, 3, -9, -9, 4, 4, -9);
        x.roll(RIGHT);
        prints(x, -9, 3, 3, 0, -9, 4, 4, -9);
        x.roll(LEFT);
        x.roll(DOWN);
        x.ink(0);
        x.roll(UP);
        prints(x, -9, 3, 3, 0, -9, 4, 4, -9);
        x.ink(1);
        x.roll(LEFT);
        prints(x, 1, 3, 3, 0, -9, 4, 4, -9);
        x = with("...;...;...;", LONG, 0);
        x.roll(DOWN);
        prints(x, -9, -9, -9, 4, -9, -9, 4, -9, -9);
        x = with("...;", CUBE, 0);
        rolls(x, "rl");
        prints(x, 1, 3, -9);
        rolls(x, "rr");
        x.places(CUBE, 2);
        x.roll(LEFT);
        prints(x, 1, 5, 0);
        x.tile(0, CRACKED);
        x.roll(LEFT);
        prints(x, 0, 5, 0);
    }

    private static void placingPrintsNothing() {
        about("Placing prints nothing");
        for (int kind = 0; kind < 6; kind++) {
            SolidsRolled x = with("..;..;", kind, 0);
            is("no print", x.count(4), 0);
            x.places(kind, 3);
            is("no print", x.count(4), 0);
            told(x, "..;");
            is("nor by a new board", x.count(4), 0);
            x.image();
            x.on();
            is("nor by an image", x.count(4), 0);
        }
    }

    private static void noneAndAll() {
        about("No PRINTS: how many TILES bore one");
        SolidsRolled x = with(LARGEST, CUBE, 1);
        is("none", x.wipes(), 0);
        is("none", x.count(4), 0);
        rolls(x, "lrrrrrdllllldrrrrrdllllldrrrrrdlllll");
        is("all", x.count(4), 36);
        is("all", x.wipes(), 36);
        is("none again", x.wipes(), 0);
        is("none again", x.count(4), 0);
        x.roll(UP);
        is("one", x.wipes(), 1);
        about("2 HOLES, 3 CRACKED TILES, 4 TILES with a PRINT");
        is("all holes", told(x, LARGEST.replace('.', '#')), 36);
        is("holes", x.count(2), 36);
        is("cracked", x.count(3), 0);
        is("all cracked", told(x, LARGEST.replace('.', '~')), 36);
        is("holes", x.count(2), 0);
        is("cracked", x.count(3), 36);
        is("the cube lies on it", x.solid(1), 0);
        is("on a smaller board", told(x, "#;"), 1);
        is("holes", x.count(2), 1);
        is("cracked", x.count(3), 0);
    }
}
