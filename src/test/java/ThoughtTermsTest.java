/** Terms, 2: each sentence that names a boundary of what is come to in thought, on both sides of it. */
final class ThoughtTermsTest extends Calls {
    /** One walk of 12 rolls from tile 0 to tile 12, and no other tiles. */
    private static final String BEND = "......;#####.;......;";

    public static void main(String[] args) {
        begin("ThoughtTermsTest");
        inkAndPrintsDontMatter();
        shyLooksAtPrintsAsTheyAre();
        shyPrintsNoneInThought();
        thoughtChangesNothing();
        thoughtForgets();
        reachedItToo();
        soonestOfNow();
        soonestOrNever();
        blocksCountWhereTheyStand();
        walkByItsFirstWay();
        walkOfItsLength();
        facesBelow();
        evenAndFarthest();
        fillMoreThanAsItIs();
        fillOfSeveral();
        fillIsFloor();
        neededTiles();
        neededNot();
        neededGreaterOrNone();
        paintedNow();
        paintedByTheLast();
        paintedNever();
        likelyNoRolls();
        likelyTwelveRolls();
        likelyInLeastTerms();
        lotsOfOneAndFifty();
        drawsWrapAround();
        end();
    }

    // ---- in thought

    private static void inkAndPrintsDontMatter() {
        about("In thought (INK, PRINTS no matter, but that a SHY one looks at PRINTS as they are now");
        for (int kind = CUBE; kind <= TETRA; kind++) {
            SolidsRolled x = with("....;.~.#;....;", kind, 0);
            SolidsRolled y = with("....;.~.#;....;", CUBE, 0);
            rolls(y, "rrddllrdlu");
            is("prints", y.count(4) > 5 ? 1 : 0, 1);
            y.places(kind, 0);
            y.ink(0);
            for (int what = 0; what <= 3; what++) {
                is("reached " + what, y.reached(what), x.reached(what));
            }
            for (int place = 0; place < 12; place++) {
                is("soonest " + place, y.soonest(place, -1), x.soonest(place, -1));
                is("soonest so " + place, y.soonest(place, 3), x.soonest(place, 3));
                is("walk " + place, y.walk(place, -1, 1), x.walk(place, -1, 1));
                is("faces " + place, y.faces(place), x.faces(place));
                is("needed " + place, y.needed(place), x.needed(place));
                is("likely " + place, y.likely(5, place, 0), x.likely(5, place, 0));
            }
            is("fill", y.fill(0), x.fill(0));
            is("fill", y.fill(1), x.fill(1));
            is("lots", y.lots(50, 3, 0), x.lots(50, 3, 0));
            is("lots", y.lots(50, 3, 1), x.lots(50, 3, 1));
            tell(x, "rrddllrr");
            tell(y, "rrddllrr");
            is("judged", y.judge(), x.judge());
        }
    }

    /** On one row of tiles with a print on one of them. */
    private static SolidsRolled withPrint(String board, int tile, int kind, int cell) {
        SolidsRolled x = with(board, CUBE, tile > 0 ? tile - 1 : 1);
        x.roll(tile > 0 ? RIGHT : LEFT);
        is("one print", x.count(4), 1);
        x.places(kind, cell);
        return x;
    }

    private static void shyLooksAtPrintsAsTheyAre() {
        about("a SHY one looks at PRINTS as they are now");
        SolidsRolled x = withPrint("...;", 1, SHY, 0);
        reached(x, 2, 2, 0, 1);
        is("soonest", x.soonest(2, -1), -9);
        is("faces", x.faces(2), 0);
        is("needed", x.needed(2), 0);
        is("paint", x.paint(2, 0), -9);
        likely(x, 9, 2, 0, 1);
        tell(x, "rr");
        is("judged", x.judge(), 1);
        x.wipes();
        reached(x, 6, 6, 0, 5);
        is("judged without prints", x.judge(), -9);
        is("soonest without prints", x.soonest(2, -1), 2);
        x = withPrint("...;", 1, TETRA, 0);
        reached(x, 6, 6, 0, 5);
        x = withPrint("...;", 0, SHY, 0);
        reached(x, 1, 1, 0, 0);
        x = withPrint("...;", 0, SHY, 1);
        reached(x, 5, 5, 0, 4);
        is("not back onto its own tile", x.paint(0, 0), -9);
        is("lots of them done", x.lots(50, 1, 0) > 0 ? 1 : 0, 1);
        is("it never lies on the other half", lotsEverAt(x, 0), 0);
    }

    private static int lotsEverAt(SolidsRolled x, int place) {
        for (int n = 1; n <= 50; n++) {
            if (x.lots(n, 12345, 1) == place) {
                return 1;
            }
        }
        return 0;
    }

    private static void shyPrintsNoneInThought() {
        about("its own ROLLS print none there");
        SolidsRolled x = with("..;", SHY, 0);
        SolidsRolled tetra = with("..;", TETRA, 0);
        reached(x, 4, 4, 0, 3);
        likely(x, 2, 0, 5, 8);
        tell(x, "rlrrrlll");
        is("there and back", x.judge(), -9);
        is("paint by coming back", x.paint(0, 0), 2);
        for (int n = 1; n <= 50; n++) {
            is("lots as a tetra", x.lots(n, 77, 1), tetra.lots(n, 77, 1));
        }
        is("but truly it does", x.walks(), 1);
    }

    private static void thoughtChangesNothing() {
        about("In thought");
        SolidsRolled x = with("...#;.~..;", SHY, 0);
        tell(x, "rrrd");
        for (int what = 0; what <= 3; what++) {
            x.reached(what);
        }
        x.soonest(7, 2);
        x.walk(7, 2, 1);
        x.faces(7);
        x.fill(0);
        x.fill(1);
        x.needed(7);
        x.paint(3, 2);
        x.likely(12, 7, 0);
        x.lots(50, 5, 1);
        x.judge();
        int[] want = {2, 4, 1, 1, 0, 1, 4, 0, SHY};
        for (int what = 0; what < want.length; what++) {
            is("count " + what, x.count(what), want[what]);
        }
        is("place", x.solid(1), 0);
        facesAt(x, 0, 1, 2, 3);
        is("the hole", x.of(3, 0), HOLE);
        is("the cracked tile", x.of(5, 0), CRACKED);
        refusals(x, 0, 0, 0, 0, 0, 0);
    }

    /** What is asked does not hang on what was asked before, on another board by another solid. */
    private static void thoughtForgets() {
        String[] boards = {".;", "#.;..;", "...;#..;", ".~.;..#;"};
        for (String board : boards) {
            for (int kind = 0; kind < 6; kind++) {
                int place = kind < TETRA ? 1 : 3;
                SolidsRolled x = with(LARGEST, kind, place);
                x.reached(0);
                x.likely(12, place, 0);
                x.needed(35);
                told(x, ".......;");
                told(x, board);
                SolidsRolled fresh = new SolidsRolled();
                fresh.places(kind, 0);
                told(fresh, board);
                int tiles = x.count(0) * x.count(1);
                x.places(kind, place % tiles);
                fresh.places(kind, place % tiles);
                asSaidBy(fresh, x, tiles, kind < TETRA ? 6 : 4);
            }
        }
    }

    private static void asSaidBy(SolidsRolled fresh, SolidsRolled x, int tiles, int sides) {
        for (int place = 0; place < tiles; place++) {
            for (int face = 0; face < sides; face++) {
                is("paint " + place + " " + face, x.paint(place, face), fresh.paint(place, face));
                is("soonest " + place + " " + face, x.soonest(place, face), fresh.soonest(place, face));
                is("walk " + place + " " + face, x.walk(place, face, 1), fresh.walk(place, face, 1));
            }
            is("faces " + place, x.faces(place), fresh.faces(place));
            is("needed " + place, x.needed(place), fresh.needed(place));
            is("likely " + place, x.likely(3, place, 0), fresh.likely(3, place, 0));
        }
        for (int what = 0; what <= 3; what++) {
            is("reached " + what, x.reached(what), fresh.reached(what));
        }
        is("fill", x.fill(0), fresh.fill(0));
        is("fill", x.fill(1), fresh.fill(1));
    }

    // ---- states, rolls, walks

    private static void reachedItToo() {
        about("REACHED: those that come of the STATE now by ROLLS (it, too)");
        for (int kind = 0; kind < 6; kind++) {
            boolean tetra = kind >= TETRA;
            reached(with(".;", kind, 0), tetra ? 2 : 1, tetra ? 2 : 1, 0, tetra ? 1 : 0);
            reached(with(".#;#.;", kind, 0), tetra ? 2 : 1, tetra ? 2 : 1, 0, tetra ? 1 : 0);
        }
        SolidsRolled x = with("...;", CUBE, 0);
        rolls(x, "rr");
        x.tile(1, HOLE);
        x.undo();
        reached(x, 3, 3, 0, 1);
        x.undo();
        reached(x, 1, 1, 0, 0);
        about("STATES: PLACE and all faces");
        reached(with("..;..;", CUBE, 0), 12, 4, 0, 6);
        reached(with(".....;", CUBE, 0), 5, 5, 0, 4);
        reached(with(".....;", BLOCK, 0), 3, 3, 0, 2);
        reached(with("......;", BLOCK, 0), 4, 4, 0, 3);
    }

    private static void soonestOfNow() {
        about("the fewest ROLLS (0, if it is so now)");
        for (int kind = 0; kind < 6; kind++) {
            SolidsRolled x = with("...;...;...;", kind, 4);
            int below = kind >= TETRA ? 0 : 1;
            is("any face", x.soonest(4, -1), 0);
            is("the face below", x.soonest(4, below), 0);
            is("another face", x.soonest(4, 2) == 0 ? 1 : 0, 0);
            is("another place", x.soonest(3, -1) == 0 ? 1 : 0, 0);
            is("no way there", x.walk(4, -1, 0), -9);
            is("needs nothing", x.needed(4), 0);
        }
    }

    private static void soonestOrNever() {
        about("SOONEST to a PLACE with a face below (-1: any ..): -9");
        SolidsRolled x = with("..#.;", CUBE, 0);
        is("one roll", x.soonest(1, -1), 1);
        is("with its face", x.soonest(1, 3), 1);
        is("never with another", x.soonest(1, 5), -9);
        is("never beyond a hole", x.soonest(3, -1), -9);
        is("never on it", x.soonest(2, -1), -9);
        x = with(BEND, CUBE, 0);
        is("twelve", x.soonest(12, -1), 12);
        is("to the farthest", x.reached(3), 12);
        x = with("..;..;", CUBE, 0);
        int[] rolls = {-9, 0, -9, 4, 4, -9};
        for (int face = 0; face < 6; face++) {
            is("face " + face + " at 0", x.soonest(0, face), rolls[face]);
        }
    }

    private static void blocksCountWhereTheyStand() {
        about("a BLOCK counts only where it STANDS, with a face told or not; so at THE WALK, NEEDED");
        for (int kind : new int[] {BLOCK, LONG}) {
            SolidsRolled x = with("....;", kind, 0);
            is("lies at 1", x.soonest(1, -1), -9);
            is("lies at 1 on face 3", x.soonest(1, 3), -9);
            is("no walk", x.walk(1, -1, 0), -9);
            is("no walk", x.walk(1, 3, 0), -9);
            is("nothing needed", x.needed(1), 0);
            is("but faces there", x.faces(1), 8);
            is("stands at 3", x.soonest(3, -1), 2);
            is("stands at 3 on end 0", x.soonest(3, 0), 2);
            walk(x, 3, -1, RIGHT, RIGHT);
            is("needed", x.needed(3), 2 + 4 + 8);
            x.roll(RIGHT);
            is("lies there now", x.soonest(1, -1), -9);
            is("lies there now on face 3", x.soonest(1, 3), -9);
            is("one roll on", x.soonest(3, -1), 1);
            x = with("....;....;....;....;", kind, 0);
            x.roll(RIGHT);
            is("lies there now", x.soonest(1, -1) > 0 ? 1 : 0, 1);
            is("as many ways", x.walk(1, -1, x.soonest(1, -1) - 1) >= 0 ? 1 : 0, 1);
            is("and no more", x.walk(1, -1, x.soonest(1, -1)), -9);
        }
    }

    private static void walkByItsFirstWay() {
        about("of those with so few ROLLS the first (by the first WAY, the least first, then by the second)");
        int[][] corners = {{0, UP, LEFT}, {2, UP, RIGHT}, {6, DOWN, LEFT}, {8, RIGHT, DOWN}};
        for (int[] corner : corners) {
            SolidsRolled x = with("...;...;...;", CUBE, 4);
            walk(x, corner[0], -1, corner[1], corner[2]);
            x.tile(4 + (corner[1] == UP ? -3 : corner[1] == RIGHT ? 1 : 3), HOLE);
            walk(x, corner[0], -1, corner[2], corner[1]);
        }
        SolidsRolled x = with("...;...;...;", CUBE, 6);
        walk(x, 2, -1, UP, UP, RIGHT, RIGHT);
        x.tile(0, HOLE);
        walk(x, 2, -1, UP, RIGHT, UP, RIGHT);
        x.tile(1, HOLE);
        walk(x, 2, -1, UP, RIGHT, RIGHT, UP);
        x.tile(3, HOLE);
        walk(x, 2, -1, RIGHT, UP, RIGHT, UP);
        x.tile(4, HOLE);
        walk(x, 2, -1, RIGHT, RIGHT, UP, UP);
        x = with("...;...;...;", CUBE, 4);
        walk(x, 0, 5, UP, LEFT);
        walk(x, 0, 2, LEFT, UP);
        walk(x, 4, 2, UP, RIGHT, DOWN, LEFT);
        walk(x, 4, 3, RIGHT, UP, LEFT, DOWN);
        walk(x, 4, 4, DOWN, RIGHT, UP, LEFT);
        walk(x, 4, 5, LEFT, UP, RIGHT, DOWN);
        x = with("..;..;", TETRA, 1);
        walk(x, 4, -1, LEFT, DOWN);
        x = with("...;...;", TETRA, 3);
        walk(x, 11, -1, RIGHT, DOWN, RIGHT);
    }

    private static void walkOfItsLength() {
        about("THE WALK: its i-th WAY (-9: there are not so many, or no such WALK)");
        SolidsRolled x = with(BEND, CUBE, 0);
        walk(x, 12, -1, RIGHT, RIGHT, RIGHT, RIGHT, RIGHT, DOWN, DOWN, LEFT, LEFT, LEFT, LEFT, LEFT);
        is("a far one", x.walk(12, -1, MAX), -9);
        walk(x, 1, 3, RIGHT);
        walk(x, 1, 4);
        walk(x, 0, 1);
        walk(x, 6, -1);
    }

    private static void facesBelow() {
        about("FACES at a PLACE: faces (bits) that can be below there (of BLOCKS that lie, too ..; that of now, too)");
        for (int kind = 0; kind < 6; kind++) {
            is("of now", with(".;", kind, 0).faces(0), kind >= TETRA ? 1 : 2);
        }
        SolidsRolled x = with("...;", BLOCK, 0);
        x.roll(RIGHT);
        is("lies there now", x.faces(1), 8);
        is("its other tile", x.faces(2), 0);
        is("stands there", x.faces(0), 2);
        x.tile(0, HOLE);
        is("not on a hole", x.faces(0), 0);
        is("that of now still", x.faces(1), 8);
        is("all six", with("...;...;", CUBE, 0).faces(0), 63);
        is("always the same", with("..;..;..;", TETRA, 0).faces(0), 1);
        is("the last cell", with(LARGEST, TETRA, 70).faces(71), 4);
        is("the last place", with(LARGEST, CUBE, 0).faces(35), 63);
    }

    private static void evenAndFarthest() {
        about("EVEN: .. by an even number of ROLLS as well as by an odd one");
        String[] boards = {".;", "..;", "..;..;", "...;...;...;", "....;....;....;....;"};
        for (String board : boards) {
            for (int kind = 0; kind < 6; kind++) {
                is(kind + " even on " + board, with(board, kind, 0).reached(2), 0);
            }
        }
        about("FARTHEST: the most ROLLS that a REACHED STATE takes at fewest (0, if there is just that of now)");
        is("alone", with(".;", CUBE, 0).reached(3), 0);
        is("with a hole", with(".#;", CUBE, 0).reached(3), 0);
        is("one roll", with("..;", CUBE, 0).reached(3), 1);
        is("one roll either way", with("...;", CUBE, 1).reached(3), 1);
        is("two rolls", with("...;", CUBE, 0).reached(3), 2);
        is("round both ways", with("..;..;", CUBE, 0).reached(3), 6);
    }

    // ---- holes filled, tiles needed, tiles painted

    private static void fillMoreThanAsItIs() {
        about("FILL: the HOLE which, were it FLOOR, makes REACHED STATES most, more than as it is; -9");
        fill(with(".;", CUBE, 0), -9, -9);
        fill(with(".~;", CUBE, 0), -9, -9);
        fill(with(".~#;", HEAVY, 0), -9, -9);
        fill(with(".#;", HEAVY, 0), 1, 2);
        fill(with(".#;", CUBE, 0), 1, 2);
        fill(with(".##;", BLOCK, 0), -9, -9);
        fill(with("..#;", BLOCK, 0), 2, 2);
        fill(with("...#;", BLOCK, 0), 3, 3);
        fill(with("..#;", LONG, 0), 2, 2);
        fill(with(".~#;", LONG, 0), -9, -9);
        fill(with("#;.;", TETRA, 2), 0, 4);
        fill(with("#;.;", TETRA, 3), 0, 4);
        fill(with(".#;##;", CUBE, 0), 1, 2);
        fill(with("....#.;", CUBE, 0), 4, 6);
    }

    private static void fillOfSeveral() {
        about("of several the least");
        fill(with("#.#;", CUBE, 1), 0, 2);
        fill(with("#.#.;", CUBE, 1), 2, 3);
        fill(with(".#.#;", CUBE, 2), 1, 3);
        fill(with("#;.;#;", CUBE, 1), 0, 2);
        fill(with("##;#.;", CUBE, 3), 1, 2);
        SolidsRolled x = with(LARGEST, CUBE, 34);
        x.tile(35, HOLE);
        is("the last tile", x.fill(0), 35);
        x.tile(0, HOLE);
        is("the first tile", x.fill(0), 0);
        x.tile(0, FLOOR);
        is("the last tile again", x.fill(0), 35);
        is("with more states", x.fill(1) > x.reached(0) ? 1 : 0, 1);
    }

    private static void fillIsFloor() {
        about("were it FLOOR");
        SolidsRolled x = withPrint("...;", 1, SHY, 0);
        x.tile(1, HOLE);
        fill(x, -9, -9);
        x.wipes();
        fill(x, 1, 6);
        x = withPrint("...;", 1, TETRA, 0);
        x.tile(1, HOLE);
        fill(x, 1, 6);
        is("a hole still", x.of(1, 0), HOLE);
        is("with its print", x.of(1, 1), 3);
        x = with("...;", CUBE, 0);
        rolls(x, "rr");
        x.tile(1, HOLE);
        x.undo();
        fill(x, -9, -9);
        x = with("...;...;", CUBE, 0);
        rolls(x, "rr");
        x.tile(1, HOLE);
        is("as it is", x.reached(0), 5);
        x.undo();
        int all = with("...;...;", CUBE, 0).reached(0);
        is("more from the hole than behind it", x.reached(0) > 5 && x.reached(0) < all ? 1 : 0, 1);
        fill(x, 1, all);
    }

    private static void neededTiles() {
        about("NEEDED: TILES (bits; below 36) not under the SOLID now");
        is("all but its own", with("....;", CUBE, 0).needed(3), 2 + 4 + 8);
        is("tile 0", with(LARGEST, CUBE, 1).needed(0), 1);
        is("tile 35", with(LARGEST, CUBE, 34).needed(35), 1L << 35);
        is("up to tile 35", with("#####.;#####.;#####.;#####.;#####.;#####.;", CUBE, 5).needed(35),
            1L << 11 | 1L << 17 | 1L << 23 | 1L << 29 | 1L << 35);
        is("all of a bend", with(BEND, CUBE, 0).needed(12), (1L << 18) - 1 - 1 - (31L << 6));
        SolidsRolled x = with("....;", BLOCK, 0);
        x.roll(RIGHT);
        is("none that it lies on", x.needed(3), 8);
        is("nor back", x.needed(0), 1);
        is("not its other half", with(".;", TETRA, 0).needed(1), 0);
        is("the tile of a cell", with("..;", TETRA, 0).needed(3), 2);
        is("the tile of a cell", with("..;", TETRA, 3).needed(0), 1);
        is("cracked ones", with(".~~;", CUBE, 0).needed(2), 2 + 4);
    }

    private static void neededNot() {
        about("0, if there is none as it is");
        is("beyond a hole", with(".#.;", CUBE, 0).needed(2), 0);
        is("a hole", with(".#.;", CUBE, 0).needed(1), 0);
        is("cracked for a heavy", with(".~.;", HEAVY, 0).needed(2), 0);
        is("where it lies now", with("...;", CUBE, 1).needed(1), 0);
        is("where a block never stands", with("...;", BLOCK, 0).needed(2), 0);
    }

    private static void neededGreaterOrNone() {
        about("each of which, were it a HOLE, makes SOONEST to a told PLACE (any face) greater, or none");
        is("as soon round the other way", with("..;..;", CUBE, 0).needed(3), 8);
        is("later round the other way", with("...;.#.;...;", CUBE, 0).needed(2), 2 + 4);
        is("later by two", with("...;...;", CUBE, 0).needed(2), 2 + 4);
        is("either first tile", with("...;...;...;", CUBE, 0).needed(8), 1L << 8);
        is("then by one tile", with("..#;..#;#.#;#..;", CUBE, 0).needed(11), 1 << 7 | 1 << 10 | 1 << 11 | 1 << 4);
        SolidsRolled x = with("..;..;", CUBE, 0);
        rolls(x, "r");
        is("with any face", x.needed(0), 1);
    }

    private static void paintedNow() {
        about("a told TILE bears a told face (0, if it bears it now");
        SolidsRolled x = with("...;", CUBE, 0);
        rolls(x, "rr");
        is("bears 3", x.paint(1, 3), 0);
        is("bears 0, below it", x.paint(2, 0), 0);
        x.tile(1, HOLE);
        is("a hole that bears it", x.paint(1, 3), 0);
        is("never another on a hole", x.paint(1, 1), -9);
        x.places(TETRA, 0);
        is("another solid's print", x.paint(1, 3), 0);
        x.wipes();
        is("no more", x.paint(1, 3), -9);
        about("the face below now is no PRINT");
        is("come back", with("..;", CUBE, 0).paint(0, 1), 2);
        is("never", with(".;", CUBE, 0).paint(0, 1), -9);
        x = with("..;", CUBE, 0);
        x.ink(0);
        x.roll(RIGHT);
        is("nor where it was rolled without ink", x.paint(1, 3), 2);
    }

    private static void paintedByTheLast() {
        about("the fewest ROLLS behind which, INK being on .. the last of them PRINTS it");
        for (int ink = 0; ink <= 1; ink++) {
            SolidsRolled x = with("....;", CUBE, 0);
            x.ink(ink);
            is("one", x.paint(1, 3), 1);
            is("two", x.paint(2, 0), 2);
            is("three", x.paint(3, 5), 3);
            is("there and back", x.paint(0, 1), 2);
            is("never on 1", x.paint(1, 1), -9);
        }
        SolidsRolled x = with("...;...;", CUBE, 0);
        rolls(x, "r");
        is("in place of another print", x.paint(1, 5) > 1 ? 1 : 0, 1);
        x = with("....;", BLOCK, 0);
        is("the nearer of its tiles", x.paint(1, 3), 1);
        is("the farther of its tiles", x.paint(2, 3), 1);
        is("standing", x.paint(3, 0), 2);
        is("never lying there", x.paint(3, 3), -9);
        is("by its other half", with(".;", TETRA, 0).paint(0, 2), 1);
        is("by its own half", with(".;", TETRA, 0).paint(0, 0), 2);
        is("by the other half's left", with(".;", TETRA, 1).paint(0, 1), 1);
    }

    private static void paintedNever() {
        about("a SHY one as told, by PRINTS as now); -9");
        SolidsRolled x = with("..;", SHY, 0);
        is("back in thought", x.paint(0, 0), 2);
        x = withPrint("..;", 0, SHY, 0);
        is("its tile bears a print", x.paint(0, 2), -9);
        is("it bears that", x.paint(0, 5 - 2), -9);
        x = withPrint("...;", 1, SHY, 0);
        is("beyond a print", x.paint(2, 0), -9);
        is("on a print", x.paint(1, 0), -9);
        is("the print itself", x.paint(1, 3), 0);
        is("never on a hole", with(".#;", CUBE, 0).paint(1, 3), -9);
        is("never that face there", with("..;", CUBE, 0).paint(1, 5), -9);
    }

    // ---- by lot

    private static void likelyNoRolls() {
        about("LIKELY: n ROLLS (0 .. 12): .. a fraction in least terms (0 by 1, if never)");
        for (int kind = 0; kind < 6; kind++) {
            SolidsRolled x = with("...;...;", kind, 4);
            likely(x, 0, 4, 1, 1);
            likely(x, 0, 0, 0, 1);
            likely(x, 0, kind >= TETRA ? 11 : 5, 0, 1);
        }
        SolidsRolled x = with("....;", BLOCK, 0);
        x.roll(RIGHT);
        likely(x, 0, 1, 1, 1);
        likely(x, 0, 2, 0, 1);
    }

    private static void likelyTwelveRolls() {
        about("n ROLLS (0 .. 12), each in a WAY 0 .. 3, each alike likely");
        SolidsRolled x = with(BEND, CUBE, 0);
        likely(x, 12, 12, 1, 1L << 24);
        likely(x, 11, 12, 0, 1);
        likely(x, 11, 13, 1, 1L << 22);
        int[] bend = {0, 1, 2, 3, 4, 5, 11, 17, 16, 15, 14, 13, 12};
        for (int far = 0; far <= 12; far++) {
            long above = choose(24, 12 + far) + choose(24, 13 + far);
            long common = Math.min(Long.lowestOneBit(above), 1L << 24);
            likely(x, 12, bend[far], above / common, (1L << 24) / common);
        }
        likely(with("..;", CUBE, 0), 12, 0, 4097, 8192);
        likely(with("..;", CUBE, 0), 12, 1, 4095, 8192);
        likely(with(LARGEST, CUBE, 0), 10, 35, 63, 1L << 18);
        likely(with(LARGEST, CUBE, 0), 9, 35, 0, 1);
        about("one that can't be done leaves all as it is");
        for (int kind = 0; kind <= LONG; kind++) {
            likely(with(".;", kind, 0), 12, 0, 1, 1);
            likely(with(".#;", kind, 0), 12, 1, 0, 1);
        }
        likely(with(".;", TETRA, 0), 12, 0, 4097, 8192);
    }

    /** A ROLL along the bend is as two half steps by lot; the bend's first end throws back what would pass it. */
    private static long choose(int n, int k) {
        long found = k > n ? 0 : 1;
        for (int i = 0; i < k && found > 0; i++) {
            found = found * (n - i) / (i + 1);
        }
        return found;
    }

    private static void likelyInLeastTerms() {
        about("how likely PLACE (of BLOCKS that lie, too) is a told one behind them");
        SolidsRolled x = with("...;...;...;", CUBE, 4);
        for (int place = 0; place < 9; place++) {
            likely(x, 1, place, place % 2, place % 2 == 1 ? 4 : 1);
        }
        int[] below = {8, 16, 8, 16, 4, 16, 8, 16, 8};
        for (int place = 0; place < 9; place++) {
            likely(x, 2, place, 1, below[place]);
        }
        likely(with("..;..;", CUBE, 0), 1, 0, 1, 2);
        likely(with("..;..;", CUBE, 0), 1, 1, 1, 4);
        likely(with("...;", BLOCK, 0), 1, 1, 1, 4);
        likely(with("...;", BLOCK, 0), 1, 0, 3, 4);
        likely(with("...;", BLOCK, 0), 1, 2, 0, 1);
    }

    private static void lotsOfOneAndFifty() {
        about("LOTS with a seed z: n times (1 .. 50)");
        SolidsRolled x = with(".;", CUBE, 0);
        for (int n : new int[] {1, 50}) {
            is("none can be done", x.lots(n, 1, 0), 0);
            is("place", x.lots(n, 1, 1), 0);
        }
        x = with("...;", CUBE, 1);
        is("no 0th", x.lots(0, 1, 0), -4);
        is("no 51st", x.lots(51, 1, 0), -6);
        about("one behind the other from now on in thought: how many were done; PLACE then");
        x = with(LARGEST, CUBE, 14);
        long z = -5;
        int place = 14;
        int done = 0;
        for (int n = 1; n <= 50; n++) {
            z = (z * 1664525 + 1013904223) & 0xffffffffL;
            int next = beside(6, 6, place, (int) (z % (1L << 31) / 256 % 4));
            done += next == place ? 0 : 1;
            place = next;
            is("done of " + n, x.lots(n, -5, 0), done);
            is("place behind " + n, x.lots(n, -5, 1), place);
        }
        is("in thought", x.solid(1), 14);
        x = with("....;", BLOCK, 0);
        is("a block that lies", lotsEverAt(x, 1), 1);
        is("its other tile", lotsEverAt(x, 2), 0);
    }

    private static int beside(int rows, int columns, int place, int way) {
        int row = place / columns + (way == DOWN ? 1 : way == UP ? -1 : 0);
        int column = place % columns + (way == RIGHT ? 1 : way == LEFT ? -1 : 0);
        return row < 0 || row >= rows || column < 0 || column >= columns ? place : row * columns + column;
    }

    private static void drawsWrapAround() {
        about("z becomes z times 1664525, plus 1013904223 (an int); (z without its sign's bit divided by 256, cut)");
        SolidsRolled x = with("...;...;...;", CUBE, 4);
        int below = 0;
        for (int i = 0; i < 400; i++) {
            int seed = i == 0 ? MIN : i == 1 ? MAX : i < 60 ? i - 30 : i * 123456789;
            long z = ((seed & 0xffffffffL) * 1664525 + 1013904223) & 0xffffffffL;
            below += z >= 1L << 31 ? 1 : 0;
            is("lots 1 " + seed, x.lots(1, seed, 1), beside(3, 3, 4, (int) (z % (1L << 31) / 256 % 4)));
            is("done", x.lots(1, seed, 0), 1);
            if (i % 100 == 99) {
                x = with("...;...;...;", CUBE, 4);
            }
        }
        is("some draws with the sign's bit, some without", below > 100 && below < 300 ? 1 : 0, 1);
    }
}
