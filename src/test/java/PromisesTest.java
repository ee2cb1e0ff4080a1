/** For each promise of the document: ordinary calls, the edges that it names, and each refusal in its order. */
final class PromisesTest extends Calls {
    public static void main(String[] args) {
        begin("PromisesTest");
        promise01NewObject();
        promise02Letter();
        promise03Board();
        promise03Faults();
        promise04Tile();
        promise05Of();
        promise06Places();
        promise07Ink();
        promise08Wipes();
        promise09Solid();
        promise10RollCubes();
        promise10RollBlocks();
        promise10RollTetras();
        promise10RollWeakerKinds();
        promise10RollRefused();
        promise11Ways();
        promise12Walks();
        promise13Judge();
        promise14Undo();
        promise15Reached();
        promise16Soonest();
        promise17Walk();
        promise18Faces();
        promise19Fill();
        promise20Needed();
        promise21Paint();
        promise22Likely();
        promise23Lots();
        promise24List();
        promise25Put();
        promise26Look();
        promise27Lays();
        promise28Tells();
        promise29Rack();
        promise30Racks();
        promise31Racked();
        promise32Like();
        promise33Image();
        promise34On();
        promise35Count();
        end();
    }

    private static void promise01NewObject() {
        SolidsRolled x = new SolidsRolled();
        is("rows", x.count(0), 4);
        is("columns", x.count(1), 4);
        is("holes", x.count(2), 0);
        is("cracked", x.count(3), 0);
        is("printed", x.count(4), 0);
        is("ink", x.count(5), 1);
        is("letters", x.count(6), 0);
        is("undone", x.count(7), 0);
        is("kind", x.solid(0), CUBE);
        is("place", x.solid(1), 0);
        facesAt(x, 0, 1, 2, 3, 4, 5);
        for (int t = 0; t < 16; t++) {
            is("floor", x.of(t, 0), 0);
            is("no print", x.of(t, 1), -9);
        }
        is("no list", x.tells(0), -11);
        is("no rack", x.racked(2, 0, 0), -11);
        is("no image", x.on(), -3);
        refusals(x, 0, 0, 1, 0, 0, 0);
    }

    private static void promise02Letter() {
        SolidsRolled x = new SolidsRolled();
        is("letter", x.letter('.'), 1);
        is("least", x.letter(0), 2);
        is("greatest", x.letter(255), 3);
        is("too low", x.letter(-1), -4);
        is("too low", x.letter(MIN), -4);
        is("too high", x.letter(256), -6);
        is("too high", x.letter(MAX), -6);
        for (int i = 4; i <= 72; i++) {
            is("letter", x.letter('.'), i);
        }
        is("no room", x.letter('.'), -6);
        is("below comes ahead of room", x.letter(-1), -4);
        is("letters", x.count(6), 72);
        refusals(x, 0, 0, 0, 3, 0, 3);
        is("the second is no sign", x.board(), -1001);
        is("room again", x.letter('.'), 1);
    }

    private static void promise03Board() {
        SolidsRolled x = new SolidsRolled();
        x.roll(RIGHT);
        x.ink(0);
        is("board", told(x, ".#~;...;"), 6);
        is("rows", x.count(0), 2);
        is("columns", x.count(1), 3);
        is("floor", x.of(0, 0), 0);
        is("hole", x.of(1, 0), 1);
        is("cracked", x.of(2, 0), 2);
        is("floor", x.of(3, 0), 0);
        is("letters are none", x.count(6), 0);
        is("no prints", x.count(4), 0);
        is("ink stays", x.count(5), 0);
        is("none undone", x.count(7), 0);
        is("place", x.solid(1), 0);
        facesAt(x, 0, 1, 2, 3, 4, 5);
        is("largest", told(x, "......;......;......;......;......;......;"), 36);
        is("smallest", told(x, "~;"), 1);
        is("the cube lies on it", x.solid(1), 0);
        is("a column", told(x, ".;~;.;"), 3);
        is("rows", x.count(0), 3);
        is("cracked", x.of(1, 0), 2);
        x = with("..;..;", TETRA, 7);
        is("board", told(x, "..;"), 2);
        is("same kind", x.solid(0), TETRA);
        is("place 0", x.solid(1), 0);
        is("board with a hole first", told(x, "#.;"), 2);
        is("none", x.solid(1), -3);
        is("kind of none", x.count(8), TETRA);
        is("board", told(x, "..;"), 2);
        is("the latest kind", x.solid(0), TETRA);
        x = with("..;", HEAVY, 0);
        told(x, "~.;");
        is("no heavy on cracked", x.solid(1), -3);
        x = with("..;", LONG, 0);
        told(x, "~.;");
        is("a standing long on cracked", x.solid(1), 0);
    }

    private static void promise03Faults() {
        String[] letters = {"", ".", "..", ";", "..;;", ".......;", "..;.;", "..;...;", "..;..", ".;.;.;.;.;.;.",
            ".;.;.;.;.;.;;", "..;.", ".;.", "x", ".x;", "..;.x", ".;.;x", "......", ".;.;.;.;.;.;x", "..;;", ".. ;"};
        int[] places = {0, 1, 2, 0, 3, 6, 4, 5, 5, 12, 12, 4, 3, 0, 1, 4, 4, 6, 12, 3, 2};
        SolidsRolled x = with("##.;", CUBE, 2);
        for (int i = 0; i < letters.length; i++) {
            is("fault of " + letters[i], told(x, letters[i]), -1000 - places[i]);
            is("letters are none", x.count(6), 0);
        }
        is("columns stay", x.count(1), 3);
        is("holes stay", x.count(2), 2);
        is("the solid stays", x.solid(1), 2);
        refusals(x, 0, 0, 0, 0, 0, 0);
        x = new SolidsRolled();
        x.roll(RIGHT);
        told(x, ".");
        is("rolls can be undone still", x.count(7), 1);
        is("prints stay", x.of(1, 1), 3);
    }

    private static void promise04Tile() {
        SolidsRolled x = new SolidsRolled();
        is("was floor", x.tile(5, 1), 0);
        is("was a hole", x.tile(5, 2), 1);
        is("was cracked", x.tile(5, 0), 2);
        is("last", x.tile(15, 2), 0);
        is("no tile", x.tile(16, 0), -1);
        is("no tile", x.tile(-1, 9), -1);
        is("no tile", x.tile(MIN, 0), -1);
        is("what", x.tile(0, 3), -2);
        is("what", x.tile(0, -1), -2);
        is("under the solid", x.tile(0, 1), -3);
        is("cracked bears a cube", x.tile(0, 2), 0);
        is("floor", x.tile(0, 0), 2);
        refusals(x, 3, 2, 1, 0, 0, 0);
        x.roll(RIGHT);
        x.roll(LEFT);
        is("a hole", x.tile(1, 1), 0);
        is("the print stays", x.of(1, 1), 3);
        is("undo stays", x.count(7), 2);
        x = with("...;", HEAVY, 0);
        is("cracked bars a heavy", x.tile(0, 2), -3);
        x = with("...;", LONG, 0);
        is("cracked under a standing long", x.tile(0, 2), 0);
        x.roll(RIGHT);
        is("cracked under a lying long", x.tile(1, 2), -3);
        is("cracked under its other tile", x.tile(2, 2), -3);
        is("a hole under its other tile", x.tile(2, 1), -3);
        is("not under it", x.tile(0, 1), 2);
        x = with("...;", BLOCK, 0);
        x.roll(RIGHT);
        is("cracked under a lying block", x.tile(2, 2), 0);
        is("a hole under a lying block", x.tile(2, 1), -3);
        x = with("..;..;", SHY, 3);
        is("a hole under a tetra", x.tile(1, 1), -3);
        is("cracked under a tetra", x.tile(1, 2), 0);
        is("a hole beside it", x.tile(0, 1), 0);
        x = none(CUBE);
        is("none lies nowhere", x.tile(0, 0), 1);
        is("none lies nowhere", x.tile(0, 1), 0);
    }

    private static void promise05Of() {
        SolidsRolled x = with(".#~;...;", CUBE, 3);
        is("floor", x.of(0, 0), 0);
        is("hole", x.of(1, 0), 1);
        is("cracked", x.of(2, 0), 2);
        is("no print", x.of(4, 1), -9);
        x.roll(RIGHT);
        is("print", x.of(4, 1), 3);
        is("no print", x.of(3, 1), -9);
        is("no tile", x.of(6, 0), -1);
        is("no tile", x.of(-1, 5), -1);
        is("what", x.of(0, 2), -2);
        is("what", x.of(0, -1), -2);
        refusals(x, 2, 2, 0, 0, 0, 0);
    }

    private static void promise06Places() {
        SolidsRolled x = new SolidsRolled();
        told(x, ".#~;...;");
        x.roll(DOWN);
        is("places", x.places(BLOCK, 5), 1);
        is("kind", x.solid(0), BLOCK);
        is("place", x.solid(1), 5);
        facesAt(x, 0, 1, 2, 3, 4, 5);
        is("none undone", x.count(7), 0);
        is("prints stay", x.of(3, 1), 4);
        is("placing prints nothing", x.of(5, 1), -9);
        is("kind", x.places(6, 0), -2);
        is("kind", x.places(-1, 99), -2);
        is("no tile", x.places(CUBE, 6), -1);
        is("no tile", x.places(CUBE, -1), -1);
        is("no cell", x.places(TETRA, 12), -1);
        is("no cell", x.places(SHY, MIN), -1);
        is("a hole", x.places(CUBE, 1), -3);
        is("a hole", x.places(TETRA, 2), -3);
        is("a hole", x.places(SHY, 3), -3);
        is("cracked", x.places(HEAVY, 2), -3);
        refusals(x, 4, 2, 4, 0, 0, 0);
        is("kind stays", x.solid(0), BLOCK);
        is("place stays", x.solid(1), 5);
        is("cracked bears a cube", x.places(CUBE, 2), 1);
        is("cracked bears a standing block", x.places(BLOCK, 2), 1);
        is("cracked bears a standing long", x.places(LONG, 2), 1);
        is("cracked bears a tetra", x.places(TETRA, 4), 1);
        is("cracked bears a shy", x.places(SHY, 5), 1);
        is("the last cell", x.places(TETRA, 11), 1);
        is("place", x.solid(1), 11);
        facesAt(x, 0, 1, 2, 3);
        is("a shy one on a print", x.places(SHY, 6), 1);
        x = none(CUBE);
        is("of none", x.places(CUBE, 1), 1);
        is("place", x.solid(1), 1);
    }

    private static void promise07Ink() {
        SolidsRolled x = new SolidsRolled();
        is("on", x.ink(0), 1);
        x.roll(RIGHT);
        is("nothing printed", x.of(1, 1), -9);
        is("off", x.ink(0), 0);
        is("off", x.ink(1), 0);
        x.roll(RIGHT);
        is("printed", x.of(2, 1), 0);
        is("no such", x.ink(2), -2);
        is("no such", x.ink(-1), -2);
        is("on still", x.count(5), 1);
        refusals(x, 0, 2, 0, 0, 0, 0);
    }

    private static void promise08Wipes() {
        SolidsRolled x = new SolidsRolled();
        is("none", x.wipes(), 0);
        rolls(x, "rrd");
        rolls(x, "ull");
        is("four", x.wipes(), 4);
        prints(x, -9, -9, -9, -9, -9, -9, -9);
        is("undo stays", x.count(7), 6);
        is("none", x.wipes(), 0);
        x.undo();
        x.undo();
        prints(x, -9, 3, 0, -9, -9, -9, 4);
    }

    private static void promise09Solid() {
        SolidsRolled x = with("....;....;....;", BLOCK, 0);
        int[] standing = {BLOCK, 0, 1, 1, 1, 0};
        for (int what = 0; what < 6; what++) {
            is("solid " + what, x.solid(what), standing[what]);
        }
        x.roll(RIGHT);
        int[] lying = {BLOCK, 1, 3, 2, 0, 0};
        for (int what = 0; what < 6; what++) {
            is("solid " + what, x.solid(what), lying[what]);
        }
        facesAt(x, 5, 3, 2, 0, 4, 1);
        is("no face", x.solid(16), -2);
        is("no face", x.solid(9), -2);
        is("what", x.solid(6), -2);
        is("what", x.solid(-1), -2);
        is("what", x.solid(MIN), -2);
        is("what", x.solid(MAX), -2);
        x.places(LONG, 3);
        is("a long stands", x.solid(4), 1);
        x.places(HEAVY, 5);
        int[] heavy = {HEAVY, 5, 1, 1, 0, 0};
        for (int what = 0; what < 6; what++) {
            is("solid " + what, x.solid(what), heavy[what]);
        }
        x.places(TETRA, 8);
        int[] down = {TETRA, 8, 0, 1, 0, 0};
        for (int what = 0; what < 6; what++) {
            is("solid " + what, x.solid(what), down[what]);
        }
        x.places(SHY, 9);
        is("points up", x.solid(5), 1);
        is("its last face", x.solid(13), 3);
        is("a face it hasn't", x.solid(14), -2);
        is("a face it hasn't", x.solid(15), -2);
        refusals(x, 0, 8, 0, 0, 0, 0);
        x = none(TETRA);
        is("none", x.solid(0), -3);
        is("none", x.solid(13), -3);
        is("what comes ahead of none", x.solid(6), -2);
        is("a face the latest hadn't", x.solid(14), -2);
        refusals(x, 0, 2, 2, 0, 0, 0);
    }

    private static void promise10RollCubes() {
        SolidsRolled x = with("...;...;...;", CUBE, 4);
        is("right", x.roll(RIGHT), 3);
        is("place", x.solid(1), 5);
        facesAt(x, 5, 3, 2, 0, 4, 1);
        x.places(CUBE, 4);
        is("left", x.roll(LEFT), 5);
        is("place", x.solid(1), 3);
        facesAt(x, 3, 5, 2, 1, 4, 0);
        x.places(CUBE, 4);
        is("up", x.roll(UP), 2);
        is("place", x.solid(1), 1);
        facesAt(x, 4, 2, 0, 3, 1, 5);
        x.places(CUBE, 4);
        is("down", x.roll(DOWN), 4);
        is("place", x.solid(1), 7);
        facesAt(x, 2, 4, 1, 3, 0, 5);
        prints(x, -9, 2, -9, 5, -9, 3, -9, 4, -9);
        is("left from below", x.roll(LEFT), 5);
        is("beyond the left", x.roll(LEFT), -3);
        is("beyond below", x.roll(DOWN), -3);
        is("back onto a print", x.roll(RIGHT), 4);
        is("up onto where it began", x.roll(UP), 1);
        is("printed there", x.of(4, 1), 1);
    }

    private static void promise10RollBlocks() {
        SolidsRolled x = with(".....;.....;.....;.....;.....;", BLOCK, 12);
        is("right", x.roll(RIGHT), 3);
        is("place", x.solid(1), 13);
        is("printed on both", x.of(13, 1) * 10 + x.of(14, 1), 33);
        is("beyond the right", x.roll(RIGHT), -3);
        is("across, up", x.roll(UP), 2);
        is("place", x.solid(1), 8);
        is("across, down", x.roll(DOWN), 3);
        is("place", x.solid(1), 13);
        is("onto its end", x.roll(LEFT), 1);
        is("place", x.solid(1), 12);
        is("left", x.roll(LEFT), 5);
        is("place", x.solid(1), 10);
        is("lies on two", x.solid(3), 2);
        is("stands up to the right", x.roll(RIGHT), 1);
        is("place", x.solid(1), 12);
        is("up", x.roll(UP), 2);
        is("place", x.solid(1), 2);
        is("printed below", x.of(7, 1), 2);
        is("along, left", x.roll(LEFT), 5);
        is("place", x.solid(1), 1);
        is("printed below", x.of(6, 1), 5);
        is("along, right", x.roll(RIGHT), 2);
        is("stands up downwards", x.roll(DOWN), 1);
        is("place", x.solid(1), 12);
        is("down", x.roll(DOWN), 4);
        is("place", x.solid(1), 17);
        is("printed below", x.of(22, 1), 4);
        is("stands up upwards", x.roll(UP), 1);
        is("place", x.solid(1), 12);
        x = with("...;...;#..;", BLOCK, 0);
        is("the second tile is a hole", x.roll(DOWN), -3);
        is("right", x.roll(RIGHT), 3);
        is("both free", x.roll(DOWN), 4);
        is("both free", x.roll(DOWN), 5);
        is("the other end", with("....;", BLOCK, 0).roll(RIGHT), 3);
        x = with("....;", BLOCK, 0);
        rolls(x, "r");
        is("the other end", x.roll(RIGHT), 0);
        is("place", x.solid(1), 3);
        is("stands", x.solid(4), 1);
        is("no room to lie", with("..;..;", BLOCK, 0).ways(), 0);
    }

    private static void promise10RollTetras() {
        SolidsRolled x = with("...;...;...;", TETRA, 8);
        is("points down", x.solid(5), 0);
        x.places(TETRA, 9);
        is("points up", x.solid(5), 1);
        is("right", x.roll(RIGHT), 2);
        is("place", x.solid(1), 10);
        is("its tile is printed", x.of(5, 1), 2);
        facesAt(x, 2, 0, 3, 1);
        x.places(TETRA, 9);
        is("left", x.roll(LEFT), 1);
        is("place", x.solid(1), 8);
        facesAt(x, 1, 3, 0, 2);
        is("points down now", x.solid(5), 0);
        is("not down", x.roll(DOWN), -3);
        is("up", x.roll(UP), 2);
        is("place", x.solid(1), 2);
        x.places(TETRA, 9);
        is("not up", x.roll(UP), -3);
        is("down", x.roll(DOWN), 3);
        is("place", x.solid(1), 15);
        facesAt(x, 3, 1, 2, 0);
        is("up again", x.roll(UP), 0);
        x.places(TETRA, 8);
        is("up", x.roll(UP), 3);
        facesAt(x, 3, 1, 2, 0);
        is("beyond the left", with("..;", TETRA, 0).roll(LEFT), -3);
        is("beyond the right", with("..;", TETRA, 3).roll(RIGHT), -3);
        is("beyond above", with("..;", TETRA, 1).roll(UP), -3);
        is("beyond below", with("..;", TETRA, 0).roll(DOWN), -3);
        is("not into the row above", with("..;..;", TETRA, 4).roll(LEFT), -3);
        is("cracked bears it", with(".~;", TETRA, 1).roll(RIGHT), 2);
        is("a hole doesn't", with(".#;", TETRA, 1).roll(RIGHT), -3);
    }

    private static void promise10RollWeakerKinds() {
        is("heavy onto cracked", with(".~;", HEAVY, 0).roll(RIGHT), -3);
        is("a cube onto cracked", with(".~;", CUBE, 0).roll(RIGHT), 3);
        is("long lying on cracked", with("..~;", LONG, 0).roll(RIGHT), -3);
        is("long lying on cracked", with(".~.;", LONG, 0).roll(RIGHT), -3);
        is("block lying on cracked", with("..~;", BLOCK, 0).roll(RIGHT), 3);
        SolidsRolled x = with("...~;", LONG, 0);
        is("lies", x.roll(RIGHT), 3);
        is("stands up on cracked", x.roll(RIGHT), 0);
        x = with("..;..;", SHY, 0);
        is("to its own other half", x.roll(RIGHT), 2);
        is("its tile bears a print now", x.roll(LEFT), -3);
        is("onto another tile", x.roll(RIGHT), 3);
        is("place", x.solid(1), 2);
        x.places(SHY, 1);
        is("placed on a print, off it", x.ways(), 0);
        x.wipes();
        is("ways without prints", x.ways(), 10);
        x.ink(0);
        is("no print behind it", x.roll(LEFT), 1);
        is("so it may go back", x.roll(RIGHT), 0);
        x = with("..;..;", TETRA, 0);
        rolls(x, "r");
        is("a tetra looks at no prints", x.roll(LEFT), 0);
    }

    private static void promise10RollRefused() {
        SolidsRolled x = new SolidsRolled();
        is("way", x.roll(4), -2);
        is("way", x.roll(-1), -2);
        is("beyond", x.roll(UP), -3);
        refusals(x, 0, 2, 1, 0, 0, 0);
        is("nothing to undo", x.count(7), 0);
        x = none(CUBE);
        is("none", x.roll(RIGHT), -3);
        is("way comes ahead of none", x.roll(9), -2);
        x = with("..;..;", CUBE, 0);
        x.tile(1, 1);
        is("a hole", x.roll(RIGHT), -3);
        is("floor", x.roll(DOWN), 4);
    }

    private static void promise11Ways() {
        is("a corner", new SolidsRolled().ways(), 6);
        is("amid", with("...;...;...;", CUBE, 4).ways(), 15);
        is("a hole above", with(".#.;...;...;", CUBE, 4).ways(), 14);
        is("alone", with(".;", CUBE, 0).ways(), 0);
        is("a block", with("...;...;...;", BLOCK, 0).ways(), 6);
        is("a block amid", with("...;...;...;", BLOCK, 4).ways(), 0);
        is("a tetra", with("...;...;...;", TETRA, 9).ways(), 14);
        is("a tetra pointing down", with("...;...;...;", TETRA, 8).ways(), 11);
        SolidsRolled x = none(CUBE);
        is("none", x.ways(), -3);
        refusals(x, 0, 0, 1, 0, 0, 0);
    }

    private static void promise12Walks() {
        SolidsRolled x = new SolidsRolled();
        tell(x, "rrd");
        is("all", x.walks(), 3);
        is("letters are none", x.count(6), 0);
        is("place", x.solid(1), 6);
        prints(x, -9, 3, 0, -9, -9, -9, 4);
        is("can be undone", x.count(7), 3);
        is("without letters", x.walks(), 0);
        tell(x, "uxl");
        is("up to no way", x.walks(), 1);
        is("letters are none", x.count(6), 0);
        tell(x, "ldduuuuul");
        is("up to one that can't be", x.walks(), 5);
        is("place", x.solid(1), 1);
        tell(x, "U");
        is("another letter", x.walks(), 0);
        refusals(x, 0, 0, 0, 0, 0, 0);
        x = with("...;...;", SHY, 0);
        tell(x, "rl");
        is("a shy one sees its own prints", x.walks(), 1);
        x = none(CUBE);
        tell(x, "rr");
        is("none", x.walks(), -3);
        is("letters stay", x.count(6), 2);
        refusals(x, 0, 0, 1, 0, 0, 0);
    }

    private static void promise13Judge() {
        SolidsRolled x = new SolidsRolled();
        is("without letters", x.judge(), -9);
        tell(x, "rdlu");
        is("all", x.judge(), -9);
        is("letters stay", x.count(6), 4);
        is("in thought", x.solid(1) + x.count(4) + x.count(7), 0);
        tell(x, "u");
        is("beyond", x.judge(), 4);
        x.walks();
        tell(x, "rrx");
        is("no way", x.judge(), 2);
        x.board();
        tell(x, ";");
        is("no way", x.judge(), 0);
        x = with("...;...;", SHY, 0);
        tell(x, "rlr");
        is("a shy one's own rolls print none in thought", x.judge(), -9);
        x.roll(RIGHT);
        x.walks();
        is("it stands on the next tile", x.solid(1), 2);
        tell(x, "d");
        is("a tile without a print", x.judge(), -9);
        tell(x, "ur");
        is("but prints as now are seen", x.judge(), 1);
        x = none(CUBE);
        is("none", x.judge(), -3);
        refusals(x, 0, 0, 1, 0, 0, 0);
    }

    private static void promise14Undo() {
        SolidsRolled x = new SolidsRolled();
        is("none", x.undo(), -3);
        rolls(x, "rlr");
        prints(x, 1, 3, -9);
        is("undone", x.undo(), 2);
        is("place", x.solid(1), 0);
        prints(x, 1, 3, -9);
        is("undone", x.undo(), 1);
        prints(x, -9, 3, -9);
        facesAt(x, 5, 3, 2, 0, 4, 1);
        is("undone", x.undo(), 0);
        prints(x, -9, -9, -9);
        facesAt(x, 0, 1, 2, 3, 4, 5);
        is("none", x.undo(), -3);
        refusals(x, 0, 0, 2, 0, 0, 0);
        for (int i = 0; i < 25; i++) {
            x.roll(i % 2 == 0 ? RIGHT : LEFT);
        }
        is("twenty at most", x.count(7), 20);
        for (int i = 19; i >= 0; i--) {
            is("undone", x.undo(), i);
        }
        is("behind five rolls", x.solid(1), 1);
        is("none", x.undo(), -3);
        undoBesideOtherCalls();
    }

    private static void undoBesideOtherCalls() {
        SolidsRolled x = new SolidsRolled();
        rolls(x, "rr");
        x.wipes();
        x.ink(0);
        is("tile", x.tile(1, 1), 0);
        is("undone", x.undo(), 1);
        is("it lies on the hole", x.solid(1), 1);
        prints(x, -9, 3, -9);
        is("ink stays", x.count(5), 0);
        is("a hole stays", x.of(1, 0), 1);
        is("a hole under it", x.tile(1, 1), -3);
        is("off the hole", x.ways(), 14);
        is("the state of now, and those beside the hole", x.reached(1), 16);
        is("no way back", x.soonest(1, -1), 0);
        is("another face", x.soonest(1, 0), -9);
        is("the hole under it, were it floor", x.fill(0), 1);
        is("undone", x.undo(), 0);
        prints(x, -9, -9, -9);
        rolls(x, "d");
        x.places(CUBE, 0);
        is("placing leaves none", x.undo(), -3);
        rolls(x, "d");
        told(x, "..;");
        is("a new board leaves none", x.undo(), -3);
        x.image();
        rolls(x, "r");
        x.on();
        is("on leaves none", x.undo(), -3);
        rolls(x, "r");
        x.places(9, 0);
        x.places(CUBE, 9);
        is("refused placing leaves them", x.undo(), 0);
    }

    private static void promise15Reached() {
        SolidsRolled x = with(".;", CUBE, 0);
        reached(x, 1, 1, 0, 0);
        reached(with("....;", CUBE, 1), 4, 4, 0, 2);
        reached(with("...#.;", CUBE, 0), 3, 3, 0, 2);
        reached(with("..;..;", CUBE, 0), 12, 4, 0, 6);
        reached(with("...;", BLOCK, 0), 2, 2, 0, 1);
        reached(with("....;", BLOCK, 0), 3, 3, 0, 2);
        reached(with("...;...;", BLOCK, 0), 4, 4, 0, 3);
        reached(with("..;", TETRA, 0), 4, 4, 0, 3);
        reached(with(".~.;", HEAVY, 0), 1, 1, 0, 0);
        x = with("..;", SHY, 0);
        reached(x, 4, 4, 0, 3);
        x.roll(RIGHT);
        reached(x, 3, 3, 0, 2);
        is("once more", x.reached(1), 3);
        is("once more", x.reached(1), 3);
        x.places(CUBE, 0);
        is("even", x.reached(2), 0);
        x.roll(RIGHT);
        is("even, one roll later", x.reached(2), 0);
        is("what", x.reached(4), -2);
        is("what", x.reached(-1), -2);
        refusals(x, 0, 2, 0, 0, 0, 0);
        x = none(CUBE);
        is("none", x.reached(3), -3);
        is("what comes ahead of none", x.reached(4), -2);
        refusals(x, 0, 1, 1, 0, 0, 0);
    }

    private static void promise16Soonest() {
        SolidsRolled x = with("....;", CUBE, 0);
        is("now", x.soonest(0, -1), 0);
        is("now", x.soonest(0, 1), 0);
        is("another face", x.soonest(0, 3), -9);
        is("three", x.soonest(3, -1), 3);
        is("three", x.soonest(3, 5), 3);
        is("another face", x.soonest(3, 0), -9);
        is("no place", x.soonest(4, -1), -1);
        is("no place", x.soonest(-1, 0), -1);
        is("no face", x.soonest(0, 6), -1);
        is("no face", x.soonest(0, -2), -1);
        refusals(x, 4, 0, 0, 0, 0, 0);
        x.roll(RIGHT);
        is("back as it was placed", x.soonest(0, 1), 1);
        x = with("..;..;", CUBE, 0);
        is("round four tiles", x.soonest(0, 3), 4);
        is("round the other way", x.soonest(0, 4), 4);
        is("never on its top there", x.soonest(0, 0), -9);
        x = with("....;", BLOCK, 0);
        is("lying counts not", x.soonest(1, -1), -9);
        is("lying counts not", x.soonest(1, 3), -9);
        is("standing", x.soonest(3, -1), 2);
        is("standing on end 0", x.soonest(3, 0), 2);
        is("not on end 1", x.soonest(3, 1), -9);
        x = with("..;", TETRA, 0);
        is("a cell", x.soonest(3, -1), 3);
        is("with a face", x.soonest(3, 1), 3);
        is("no cell", x.soonest(4, -1), -1);
        is("no such face", x.soonest(3, 4), -1);
        x = none(CUBE);
        is("none", x.soonest(0, -1), -3);
        is("place comes ahead of none", x.soonest(4, -1), -1);
        refusals(x, 1, 0, 1, 0, 0, 0);
    }

    private static void promise17Walk() {
        SolidsRolled x = with("...;...;", CUBE, 0);
        walk(x, 5, -1, RIGHT, RIGHT, DOWN);
        walk(x, 0, -1);
        walk(x, 3, -1, DOWN);
        x = with(".#.;...;", CUBE, 0);
        walk(x, 2, -1, DOWN, RIGHT, RIGHT, UP);
        x = with("...;#.#;", CUBE, 1);
        walk(x, 4, -1, DOWN);
        walk(x, 4, 3);
        x = with("...;...;...;", CUBE, 8);
        walk(x, 0, -1, UP, UP, LEFT, LEFT);
        walk(x, 4, 2, LEFT, UP);
        walk(x, 4, 5, UP, LEFT);
        walk(x, 4, -1, UP, LEFT);
        x.places(CUBE, 0);
        rolls(x, "r");
        walk(x, 0, 1, LEFT);
        x = with("....;", BLOCK, 0);
        walk(x, 3, 0, RIGHT, RIGHT);
        walk(x, 1, -1);
        x = with("..;..;", TETRA, 0);
        walk(x, 6, -1, RIGHT, RIGHT, DOWN);
        is("place", x.walk(8, -1, -1), -1);
        is("face", x.walk(0, 4, 0), -1);
        is("i", x.walk(0, 3, -1), -4);
        is("far i", x.walk(6, -1, MAX), -9);
        refusals(x, 2, 0, 0, 1, 0, 0);
        x = none(CUBE);
        is("none", x.walk(0, -1, 0), -3);
        is("i comes ahead of none", x.walk(0, -1, -1), -4);
        is("place comes ahead of i", x.walk(9, -1, -1), -1);
        refusals(x, 1, 0, 1, 1, 0, 0);
    }

    private static void promise18Faces() {
        SolidsRolled x = with("...;", CUBE, 0);
        is("now", x.faces(0), 2);
        is("right", x.faces(1), 8);
        is("top", x.faces(2), 1);
        is("no place", x.faces(3), -1);
        is("no place", x.faces(-1), -1);
        refusals(x, 2, 0, 0, 0, 0, 0);
        x = with("..#.;..#.;", CUBE, 0);
        is("not come to", x.faces(3), 0);
        is("round four tiles", x.faces(0), 2 + 8 + 16);
        x = with("....;", BLOCK, 0);
        is("lying", x.faces(1), 8);
        is("its other tile", x.faces(2), 0);
        is("standing", x.faces(3), 1);
        x = with("..;", TETRA, 0);
        is("a cell", x.faces(2), 8);
        is("no cell", x.faces(4), -1);
        x = none(CUBE);
        is("none", x.faces(0), -3);
        is("place comes ahead of none", x.faces(4), -1);
        refusals(x, 1, 0, 1, 0, 0, 0);
    }

    private static void promise19Fill() {
        fill(with(".#...;", CUBE, 0), 1, 5);
        fill(with("#.#;", CUBE, 1), 0, 2);
        fill(with("#.#.;", CUBE, 1), 2, 3);
        fill(with(".##;", CUBE, 0), 1, 2);
        fill(with("..##.;", CUBE, 0), 2, 3);
        fill(with(".~##.;", CUBE, 0), 2, 3);
        fill(with(".~#.;", HEAVY, 0), -9, -9);
        fill(with("...;", CUBE, 0), -9, -9);
        fill(with("..#;", BLOCK, 0), 2, 2);
        fill(with(".##;", BLOCK, 0), -9, -9);
        SolidsRolled x = with(".#;", TETRA, 0);
        fill(x, 1, 4);
        is("in thought", x.of(1, 0), 1);
        is("what", x.fill(2), -2);
        is("what", x.fill(-1), -2);
        refusals(x, 0, 2, 0, 0, 0, 0);
        x = none(CUBE);
        is("none", x.fill(0), -3);
        is("what comes ahead of none", x.fill(2), -2);
        refusals(x, 0, 1, 1, 0, 0, 0);
    }

    private static void promise20Needed() {
        SolidsRolled x = with("....;", CUBE, 0);
        is("all between, and there", x.needed(3), 2 + 4 + 8);
        is("now", x.needed(0), 0);
        is("no place", x.needed(4), NOBODY);
        is("no place", x.needed(-1), NOBODY);
        refusals(x, 2, 0, 0, 0, 0, 0);
        rolls(x, "rr");
        is("back", x.needed(0), 1 + 2);
        is("two walks", with("..;..;", CUBE, 0).needed(3), 8);
        x = with("..;..;", CUBE, 0);
        rolls(x, "dr");
        is("two walks back, to other faces", x.needed(0), 1);
        is("one walk", with(".#;..;", CUBE, 0).needed(3), 4 + 8);
        is("a longer walk else", with("...;.#.;...;", CUBE, 0).needed(2), 2 + 4);
        is("no walk", with(".#.;", CUBE, 0).needed(2), 0);
        is("in thought", x.count(2), 0);
        is("in thought", x.of(1, 0), 0);
        x = with("....;", BLOCK, 0);
        is("all it lies on", x.needed(3), 2 + 4 + 8);
        is("never standing there", x.needed(1), 0);
        x.roll(RIGHT);
        is("not those under it", x.needed(3), 8);
        x = with("..;..;", TETRA, 0);
        is("not its own tile", x.needed(3), 2);
        is("its own other half", x.needed(1), 0);
        is("no cell", x.needed(8), NOBODY);
        x = with("......;......;......;......;......;......;", CUBE, 34);
        is("the greatest tile", x.needed(35), 1L << 35);
        x = none(CUBE);
        is("none", x.needed(0), STATE);
        is("place comes ahead of none", x.needed(4), NOBODY);
        refusals(x, 1, 0, 1, 0, 0, 0);
    }

    private static void promise21Paint() {
        SolidsRolled x = with("...;", CUBE, 0);
        is("one roll", x.paint(1, 3), 1);
        is("come back", x.paint(0, 1), 2);
        is("never", x.paint(0, 3), -9);
        is("two rolls", x.paint(2, 0), 2);
        rolls(x, "r");
        is("it bears it", x.paint(1, 3), 0);
        is("never two", x.paint(1, 1), -9);
        x.wipes();
        is("the face below is no print", x.paint(1, 3), 2);
        x.ink(0);
        is("as if ink were on", x.paint(0, 1), 1);
        is("no tile", x.paint(3, 0), -1);
        is("no tile", x.paint(-1, 0), -1);
        is("no face", x.paint(0, 6), -1);
        is("no face", x.paint(0, -1), -1);
        refusals(x, 4, 0, 0, 0, 0, 0);
        x = with("..;..;", CUBE, 2);
        is("by a roll up", x.paint(0, 2), 1);
        is("alone it rolls never", with(".;", CUBE, 0).paint(0, 1), -9);
        x = with("....;", BLOCK, 0);
        is("lying it prints both", x.paint(2, 3), 1);
        is("lying it prints both", x.paint(1, 3), 1);
        is("standing", x.paint(3, 0), 2);
        is("come back", x.paint(0, 1), 2);
        x = with("..;", TETRA, 0);
        is("its other half", x.paint(0, 2), 1);
        is("come back", x.paint(0, 0), 2);
        is("the next tile", x.paint(1, 3), 2);
        is("no such face", x.paint(0, 4), -1);
        is("a tile, no cell", x.paint(2, 0), -1);
        x = with("..;", SHY, 0);
        is("its own rolls bar none", x.paint(0, 0), 2);
        x.roll(RIGHT);
        is("a print bars", x.paint(0, 0), -9);
        is("it bears it", x.paint(0, 2), 0);
        x = none(CUBE);
        is("none", x.paint(0, 0), -3);
        is("tile comes ahead of none", x.paint(4, 0), -1);
        refusals(x, 1, 0, 1, 0, 0, 0);
    }

    private static void promise22Likely() {
        SolidsRolled x = with("..;", CUBE, 0);
        likely(x, 0, 0, 1, 1);
        likely(x, 0, 1, 0, 1);
        likely(x, 1, 0, 3, 4);
        likely(x, 1, 1, 1, 4);
        likely(x, 2, 0, 5, 8);
        likely(x, 12, 0, 4097, 8192);
        likely(with("..;", CUBE, 1), 0, 0, 0, 1);
        likely(with("..;", CUBE, 1), 0, 1, 1, 1);
        likely(with(".;", CUBE, 0), 12, 0, 1, 1);
        likely(with(".#.;", CUBE, 0), 12, 2, 0, 1);
        likely(with("...;", BLOCK, 0), 1, 1, 1, 4);
        likely(with("...;", BLOCK, 0), 5, 2, 0, 1);
        likely(with("..;..;", TETRA, 0), 1, 5, 0, 1);
        likely(with("..;..;", TETRA, 0), 1, 4, 1, 4);
        is("no place", x.likely(-1, 2, 9), NOBODY);
        is("no place", x.likely(1, -1, 0), NOBODY);
        is("n", x.likely(-1, 0, 9), BELOW);
        is("n", x.likely(13, 0, 9), ROOM);
        is("n", x.likely(MAX, 0, 0), ROOM);
        is("part", x.likely(12, 0, 2), OTHER);
        is("part", x.likely(0, 0, -1), OTHER);
        refusals(x, 2, 2, 0, 1, 0, 2);
        x = none(CUBE);
        is("none", x.likely(1, 0, 0), STATE);
        is("part comes ahead of none", x.likely(1, 0, 2), OTHER);
        refusals(x, 0, 1, 1, 0, 0, 0);
    }

    private static void promise23Lots() {
        SolidsRolled x = with("...;...;...;", CUBE, 4);
        int z = 0;
        int place = 4;
        int done = 0;
        int[] rows = {-1, 0, 1, 0};
        int[] columns = {0, 1, 0, -1};
        for (int n = 1; n <= 50; n++) {
            z = z * 1664525 + 1013904223;
            int way = (z >>> 8 & 0x7fffff) % 4;
            int row = place / 3 + rows[way];
            int column = place % 3 + columns[way];
            if (row >= 0 && row < 3 && column >= 0 && column < 3) {
                place = 3 * row + column;
                done++;
            }
            is("lots done " + n, x.lots(n, 0, 0), done);
            is("lots place " + n, x.lots(n, 0, 1), place);
        }
        is("in thought", x.solid(1) + x.count(4) + x.count(7), 4);
        x = with("..;", CUBE, 0);
        x.roll(RIGHT);
        is("the draw is left", (4 * 1664525 + 1013904223 >>> 8 & 0x7fffff) % 4, LEFT);
        is("back as it was placed", x.lots(1, 4, 0), 1);
        is("back as it was placed", x.lots(1, 4, 1), 0);
        is("alone", with(".;", CUBE, 0).lots(50, -1, 0), 0);
        is("n", x.lots(0, 0, 9), -4);
        is("n", x.lots(MIN, 0, 0), -4);
        is("n", x.lots(51, 0, 9), -6);
        is("what", x.lots(50, 0, 2), -2);
        is("what", x.lots(1, 0, -1), -2);
        refusals(x, 0, 2, 0, 2, 0, 1);
        x = none(CUBE);
        is("none", x.lots(1, 0, 0), -3);
        is("what comes ahead of none", x.lots(1, 0, 2), -2);
        refusals(x, 0, 1, 1, 0, 0, 0);
    }

    private static void promise24List() {
        SolidsRolled x = new SolidsRolled();
        is("list", x.list(0, 3), 1);
        is("list", x.list(2, 40), 1);
        is("list", x.list(1, 0), 1);
        is("zero", x.look(0, 2), 0);
        is("three places", x.look(0, 3), NO_PLACE);
        is("forty places", x.look(2, 39), 0);
        is("no place", x.look(1, 0), NO_PLACE);
        x.put(0, 1, 7);
        is("anew", x.list(0, 2), 1);
        is("zero again", x.look(0, 1), 0);
        is("no list", x.list(3, 41), -1);
        is("no list", x.list(-1, -1), -1);
        is("no room", x.list(0, 41), -6);
        is("no room", x.list(0, MAX), -6);
        is("below empty", x.list(0, -1), -14);
        is("below empty", x.list(0, MIN), -14);
        is("as it was", x.look(0, 1), 0);
        refusals(x, 2, 0, 0, 0, 0, 2);
    }

    private static void promise25Put() {
        SolidsRolled x = new SolidsRolled();
        x.list(1, 2);
        is("put", x.put(1, 0, MIN), 1);
        is("put", x.put(1, 1, MAX), 1);
        is("least", x.look(1, 0), MIN);
        is("greatest", x.look(1, 1), MAX);
        is("no list", x.put(3, 0, 0), -1);
        is("no list", x.put(-1, 9, 0), -1);
        is("missing", x.put(0, 9, 0), -11);
        is("no place", x.put(1, 2, 0), -13);
        is("no place", x.put(1, -1, 0), -13);
        is("no place", x.put(1, MAX, 0), -13);
        refusals(x, 2, 0, 0, 0, 0, 0);
    }

    private static void promise26Look() {
        SolidsRolled x = new SolidsRolled();
        x.list(0, 2);
        x.put(0, 1, -13);
        is("look", x.look(0, 1), -13);
        is("zero", x.look(0, 0), 0);
        is("no list", x.look(3, 0), NOBODY);
        is("no list", x.look(-1, 9), NOBODY);
        is("missing", x.look(2, 9), MISSING);
        is("no place", x.look(0, 2), NO_PLACE);
        is("no place", x.look(0, -1), NO_PLACE);
        refusals(x, 2, 0, 0, 0, 0, 0);
    }

    private static void promise27Lays() {
        SolidsRolled x = with("...;", CUBE, 0);
        x.roll(RIGHT);
        x.list(0, 5);
        is("laid", x.lays(0, 2), 3);
        int[] want = {0, 0, -1, 3, -1};
        for (int i = 0; i < 5; i++) {
            is("look", x.look(0, i), want[i]);
        }
        x.list(1, 2);
        is("not all", x.lays(1, 0), -13);
        is("those ahead are laid", x.look(1, 0), -1);
        is("those ahead are laid", x.look(1, 1), 3);
        x.list(1, 2);
        is("none ahead", x.lays(1, -1), -13);
        is("nothing laid", x.look(1, 0), 0);
        is("none ahead", x.lays(1, 2), -13);
        is("none ahead", x.lays(1, MAX), -13);
        is("none ahead", x.lays(1, MIN), -13);
        is("no list", x.lays(3, 0), -1);
        is("missing", x.lays(2, 99), -11);
        refusals(x, 1, 0, 0, 0, 0, 0);
        x.list(2, 40);
        is("at the very end", x.lays(2, 37), 3);
        is("at the very end", x.look(2, 38), 3);
        is("one too far", x.lays(2, 38), -13);
    }

    private static void promise28Tells() {
        SolidsRolled x = with("...;", CUBE, 0);
        x.roll(RIGHT);
        x.list(0, 3);
        x.lays(0, 0);
        is("right", x.tells(0), -9);
        x.put(0, 1, 4);
        is("otherwise", x.tells(0), 1);
        x.put(0, 0, -9);
        is("the first", x.tells(0), 0);
        x.list(1, 0);
        is("an empty one", x.tells(1), -9);
        x.list(1, 2);
        x.lays(1, 0);
        is("fewer", x.tells(1), -9);
        x.list(1, 5);
        x.lays(1, 0);
        x.put(1, 3, -1);
        is("a tile that isn't there", x.tells(1), 3);
        is("no list", x.tells(3), -1);
        is("no list", x.tells(-1), -1);
        is("missing", x.tells(2), -11);
        refusals(x, 2, 0, 0, 0, 0, 0);
    }

    private static void promise29Rack() {
        SolidsRolled x = new SolidsRolled();
        is("rack", x.rack(0, CUBE, 2), 1);
        is("empty", x.racked(0, 1, 0), -9);
        is("two places", x.racked(0, 2, 0), -13);
        is("nine", x.rack(2, SHY, 9), 1);
        is("nine places", x.racked(2, 8, 0), -9);
        is("none", x.rack(1, BLOCK, 0), 1);
        is("no place", x.racked(1, 0, 0), -13);
        x.racks(0, 1, 1);
        is("anew", x.rack(0, CUBE, 2), 1);
        is("empty again", x.racked(0, 1, 0), -9);
        is("no rack", x.rack(3, 9, 10), -1);
        is("no rack", x.rack(-1, 0, 1), -1);
        is("kind", x.rack(0, 6, 10), -2);
        is("kind", x.rack(0, -1, -1), -2);
        is("no room", x.rack(0, 0, 10), -6);
        is("no room", x.rack(0, 0, MAX), -6);
        is("below empty", x.rack(0, 0, -1), -14);
        is("as it was", x.racked(0, 1, 0), -9);
        refusals(x, 2, 2, 0, 0, 0, 2);
    }

    private static void promise30Racks() {
        boolean[][] fits = {
            {true, true, false, false, false, false},
            {false, true, false, false, false, false},
            {false, false, true, true, false, false},
            {false, false, false, true, false, false},
            {false, false, false, false, true, true},
            {false, false, false, false, false, true}};
        SolidsRolled x = new SolidsRolled();
        for (int made = 0; made < 6; made++) {
            x.rack(0, made, 1);
            for (int kind = 0; kind < 6; kind++) {
                x.places(kind, 0);
                x.racks(0, 0, 0);
                is(kind + " into a rack for " + made, x.racks(0, 0, 1), fits[made][kind] ? 1 : -16);
                is("kind", x.racked(0, 0, 0), fits[made][kind] ? kind : -9);
            }
        }
        is("nothing is laid", x.racks(0, 0, 0), 1);
        is("empty", x.racked(0, 0, 1), -9);
        x.places(CUBE, 0);
        is("no rack", x.racks(3, 0, 9), -1);
        is("what", x.racks(1, 9, 2), -2);
        is("what", x.racks(1, 9, -1), -2);
        is("missing", x.racks(1, 9, 1), -11);
        is("missing", x.racks(1, 9, 0), -11);
        is("no place comes ahead of not made for", x.racks(0, 1, 1), -13);
        is("no place", x.racks(0, -1, 0), -13);
        is("not made for", x.racks(0, 0, 1), -16);
        is("nothing fits always", x.racks(0, 0, 0), 1);
        refusals(x, 1, 2, 0, 0, 0, 0);
        told(x, "#.;");
        is("none comes ahead of missing", x.racks(1, 9, 1), -3);
        is("nothing needs no solid", x.racks(0, 0, 0), 1);
        is("nothing, missing", x.racks(1, 9, 0), -11);
        refusals(x, 1, 2, 1, 0, 0, 0);
    }

    private static void promise31Racked() {
        SolidsRolled x = new SolidsRolled();
        x.rack(0, CUBE, 3);
        x.roll(RIGHT);
        x.racks(0, 1, 1);
        is("kind", x.racked(0, 1, 0), CUBE);
        is("face below", x.racked(0, 1, 1), 3);
        x.roll(RIGHT);
        x.places(HEAVY, 0);
        is("as it was when laid", x.racked(0, 1, 0), CUBE);
        is("as it was when laid", x.racked(0, 1, 1), 3);
        x.racks(0, 1, 1);
        is("another one", x.racked(0, 1, 0), HEAVY);
        is("its face", x.racked(0, 1, 1), 1);
        is("nothing", x.racked(0, 0, 0), -9);
        is("nothing", x.racked(0, 2, 1), -9);
        is("no rack", x.racked(3, 0, 9), -1);
        is("no rack", x.racked(-1, 0, 0), -1);
        is("what", x.racked(1, 9, 2), -2);
        is("what", x.racked(0, 0, -1), -2);
        is("missing", x.racked(1, 9, 0), -11);
        is("no place", x.racked(0, 3, 0), -13);
        is("no place", x.racked(0, -1, 1), -13);
        refusals(x, 2, 2, 0, 0, 0, 0);
    }

    private static void promise32Like() {
        SolidsRolled x = new SolidsRolled();
        x.rack(0, CUBE, 3);
        x.roll(DOWN);
        x.racks(0, 2, 1);
        x.rack(1, TETRA, 9);
        is("like", x.like(1, 0), 3);
        is("kind", x.racked(1, 2, 0), CUBE);
        is("face", x.racked(1, 2, 1), 4);
        is("size", x.racked(1, 3, 0), -13);
        is("made for the same", x.racks(1, 0, 1), 1);
        is("a row of its own", x.racked(0, 0, 0), -9);
        x.racks(0, 2, 0);
        is("a row of its own", x.racked(1, 2, 0), CUBE);
        is("like itself", x.like(0, 0), 3);
        is("like a missing one", x.like(0, 2), -11);
        is("a missing one like it", x.like(2, 1), 3);
        is("its kind", x.racked(2, 0, 0), CUBE);
        x.rack(0, CUBE, 0);
        is("an empty one", x.like(2, 0), 0);
        is("no rack", x.like(3, 0), -1);
        is("no rack", x.like(0, 3), -1);
        is("no rack", x.like(0, -1), -1);
        is("no rack", x.like(-1, 0), -1);
        refusals(x, 4, 0, 0, 0, 0, 0);
    }

    private static void promise33Image() {
        SolidsRolled x = new SolidsRolled();
        rolls(x, "rd");
        is("image", x.image(), 5);
        is("nothing changes", x.count(7), 2);
        x.places(TETRA, 31);
        is("a cell", x.image(), 31);
        is("on from the latest", x.on(), 31);
        x = none(CUBE);
        is("none", x.image(), -9);
        refusals(x, 0, 0, 0, 0, 0, 0);
    }

    private static void promise34On() {
        SolidsRolled x = with("...;.#.;", CUBE, 0);
        is("no image", x.on(), -3);
        refusals(x, 0, 0, 1, 0, 0, 0);
        rolls(x, "r");
        x.ink(0);
        x.image();
        x.ink(1);
        rolls(x, "rd");
        x.tile(0, 2);
        told(x, ".~~~;");
        x.places(BLOCK, 0);
        tell(x, "rr");
        x.list(0, 1);
        x.put(0, 0, 5);
        x.rack(0, BLOCK, 1);
        x.racks(0, 0, 1);
        x.roll(RIGHT);
        is("on", x.on(), 1);
        is("rows", x.count(0), 2);
        is("columns", x.count(1), 3);
        is("holes", x.count(2), 1);
        is("cracked", x.count(3), 0);
        is("ink", x.count(5), 0);
        is("kind", x.solid(0), CUBE);
        facesAt(x, 5, 3, 2, 0, 4, 1);
        prints(x, -9, 3, -9, -9, -9, -9);
        is("letters stay", x.count(6), 2);
        is("lists stay", x.look(0, 0), 5);
        is("racks stay", x.racked(0, 0, 0), BLOCK);
        is("none undone", x.count(7), 0);
        rolls(x, "r");
        x.tile(3, 1);
        is("on once more", x.on(), 1);
        is("the image is as it was", x.of(3, 0), 0);
        x = none(SHY);
        x.image();
        told(x, "..;");
        x.places(CUBE, 1);
        is("on to none", x.on(), -9);
        is("none", x.solid(1), -3);
        is("its kind", x.count(8), SHY);
        is("rows", x.count(0), 2);
    }

    private static void promise35Count() {
        SolidsRolled x = with(".#~;~.#;#..;..~;", HEAVY, 4);
        tell(x, "abc");
        x.roll(DOWN);
        x.roll(RIGHT);
        x.letter(-1);
        x.letter(256);
        x.tile(99, 0);
        x.ink(7);
        x.ink(8);
        x.roll(DOWN);
        x.tile(8, 1);
        x.undo();
        int[] want = {4, 3, 3, 3, 1, 1, 3, 1, HEAVY, -9, -9, 1, 2, 2, 1, 0, 1, -9};
        for (int what = 0; what < want.length; what++) {
            is("count " + what, x.count(what), want[what]);
        }
        is("another what", x.count(-1), -9);
        is("another what", x.count(MIN), -9);
        is("another what", x.count(MAX), -9);
        is("not refused", x.count(12), 2);
        x.ink(0);
        is("ink", x.count(5), 0);
        told(x, "#;");
        is("kind of none", x.count(8), HEAVY);
        is("letters were none of a board", x.count(0), 4);
        told(x, "#;");
        is("a board", x.count(0), 1);
        is("kind of none", x.count(8), HEAVY);
    }
}
