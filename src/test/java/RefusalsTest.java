import java.util.List;
import java.util.function.Supplier;
import java.util.function.ToLongFunction;

/**
 * Each refusal of each promise, on both sides of its boundary, and each two in their order. A refused call is made
 * on one of two like objects; behind it both must tell the same, but for one refusal more of its sort; answers that
 * are not counted leave even that.
 */
final class RefusalsTest extends Calls {
    private static final List<Supplier<SolidsRolled>> SOLID =
        List.of(SolidsRolled::new, RefusalsTest::lying, RefusalsTest::shy);
    private static final List<Supplier<SolidsRolled>> NONE = List.of(RefusalsTest::noTetra, RefusalsTest::noHeavy);

    public static void main(String[] args) {
        begin("RefusalsTest");
        letter();
        tile();
        tileUnderTheSolid();
        of();
        places();
        placesThatBar();
        inkAndSolid();
        rolls();
        reachedAndFill();
        soonest();
        walk();
        facesAndNeeded();
        paint();
        likely();
        lots();
        list();
        putAndLook();
        laysAndTells();
        rack();
        racks();
        racked();
        likeAndOn();
        uncounted();
        end();
    }

    // ---- objects on which much has been done

    /** A board with prints; letters; lists and racks, one of each missing; an image; the solid is yet to be placed. */
    private static SolidsRolled furnished() {
        SolidsRolled x = new SolidsRolled();
        told(x, ".#~.;....;~..#;");
        rolls(x, "dr");
        x.image();
        x.list(0, 3);
        x.put(0, 1, 7);
        x.list(1, 40);
        x.lays(1, 5);
        x.rack(0, BLOCK, 2);
        x.rack(1, CUBE, 9);
        x.racks(1, 2, 1);
        return x;
    }

    private static SolidsRolled lying() {
        SolidsRolled x = furnished();
        x.places(LONG, 4);
        x.racks(0, 1, 1);
        rolls(x, "rrl");
        x.ink(0);
        tell(x, "ud.;");
        return x;
    }

    private static SolidsRolled shy() {
        SolidsRolled x = furnished();
        x.places(SHY, 14);
        rolls(x, "u");
        tell(x, "d;");
        return x;
    }

    private static SolidsRolled noTetra() {
        SolidsRolled x = furnished();
        x.places(TETRA, 6);
        told(x, "#~.;...;");
        tell(x, ".#;");
        return x;
    }

    private static SolidsRolled noHeavy() {
        SolidsRolled x = furnished();
        x.places(HEAVY, 4);
        told(x, "~..;...;");
        tell(x, "rd");
        return x;
    }

    private static SolidsRolled withFullLetters() {
        SolidsRolled x = lying();
        for (int i = x.count(6); i < 72; i++) {
            x.letter('.');
        }
        return x;
    }

    private static int tiles(SolidsRolled x) {
        return x.count(0) * x.count(1);
    }

    private static boolean isTetra(SolidsRolled x) {
        return x.count(8) >= TETRA;
    }

    private static int placesOf(SolidsRolled x) {
        return isTetra(x) ? 2 * tiles(x) : tiles(x);
    }

    private static int sides(SolidsRolled x) {
        return isTetra(x) ? 4 : 6;
    }

    // ---- what is refused, what is taken

    /** Which count a refusal raises, or 0. */
    private static int countOf(long answer) {
        long refusal = answer > NOBODY - 1 ? NOBODY - 1 - answer : answer;
        return refusal == -5 || refusal > -1 || refusal < -6 ? 0 : (int) (10 - refusal);
    }

    private static void changesNothing(Supplier<SolidsRolled> made, String call, ToLongFunction<SolidsRolled> asked,
            long want) {
        SolidsRolled one = made.get();
        is(call, asked.applyAsLong(one), want);
        Tale tale = new Tale(one, countOf(want));
        Tale other = new Tale(made.get(), 0);
        is(call + ", then how many answers", tale.answers.size(), other.answers.size());
        for (int i = 0; i < tale.answers.size() && i < other.answers.size(); i++) {
            is(call + ", then " + i + ": " + other.calls.get(i), tale.answers.get(i), other.answers.get(i));
        }
    }

    /** Refused whether there is a solid or NONE. */
    private static void refused(String call, ToLongFunction<SolidsRolled> asked, long want) {
        refusedWithSolid(call, asked, want);
        for (Supplier<SolidsRolled> made : NONE) {
            changesNothing(made, call + " with none", asked, want);
        }
    }

    private static void refusedWithSolid(String call, ToLongFunction<SolidsRolled> asked, long want) {
        for (Supplier<SolidsRolled> made : SOLID) {
            changesNothing(made, call, asked, want);
        }
    }

    /** Where racks and lists are there. */
    private static void furnishedAnswers(String call, ToLongFunction<SolidsRolled> asked, long want) {
        changesNothing(RefusalsTest::lying, call, asked, want);
        changesNothing(RefusalsTest::shy, call, asked, want);
        changesNothing(RefusalsTest::noTetra, call + " with none", asked, want);
        changesNothing(RefusalsTest::noHeavy, call + " with none", asked, want);
    }

    /** Not refused with a solid; what must be as with NONE: a state, whatever comes behind it. */
    private static void needsSolid(String call, ToLongFunction<SolidsRolled> asked, long state) {
        for (Supplier<SolidsRolled> made : SOLID) {
            isTaken(made.get(), call, asked);
        }
        for (Supplier<SolidsRolled> made : NONE) {
            changesNothing(made, call + " with none", asked, state);
        }
    }

    private static void taken(String call, ToLongFunction<SolidsRolled> asked) {
        for (Supplier<SolidsRolled> made : SOLID) {
            isTaken(made.get(), call, asked);
        }
        for (Supplier<SolidsRolled> made : NONE) {
            isTaken(made.get(), call + " with none", asked);
        }
    }

    private static void isTaken(SolidsRolled x, String call, ToLongFunction<SolidsRolled> asked) {
        long[] before = refusalsOf(x);
        is(call + " is refused by", countOf(asked.applyAsLong(x)), 0);
        long[] behind = refusalsOf(x);
        for (int i = 0; i < before.length; i++) {
            is(call + ", then refusals " + i, behind[i], before[i]);
        }
    }

    private static long[] refusalsOf(SolidsRolled x) {
        long[] refusals = new long[6];
        for (int i = 0; i < refusals.length; i++) {
            refusals[i] = x.count(11 + i);
        }
        return refusals;
    }

    // ---- the board, the solid

    private static void letter() {
        about("A letter (0 .. 255) comes. -4; -6 (255; 72, too)");
        for (int c : new int[] {0, 1, 254, 255}) {
            taken("letter " + c, x -> x.letter(c));
        }
        for (int c : new int[] {-1, -255, MIN}) {
            refused("letter " + c, x -> x.letter(c), -4);
            changesNothing(RefusalsTest::withFullLetters, "full, letter " + c, x -> x.letter(c), -4);
        }
        for (int c : new int[] {256, MAX}) {
            refused("letter " + c, x -> x.letter(c), -6);
        }
        for (int c : new int[] {0, '.', 255, 256}) {
            changesNothing(RefusalsTest::withFullLetters, "full, letter " + c, x -> x.letter(c), -6);
        }
    }

    private static void tile() {
        about("A TILE becomes 0, 1, 2. -1; -2; -3");
        for (int what = 0; what <= 2; what++) {
            int each = what;
            taken("the last tile becomes " + what, x -> x.tile(tiles(x) - 1, each));
        }
        taken("tile 0 is floor", x -> x.tile(0, 0));
        for (int what : new int[] {-1, 0, 3}) {
            refused("tile -1 " + what, x -> x.tile(-1, what), -1);
            refused("no tile " + what, x -> x.tile(tiles(x), what), -1);
            refused("least tile " + what, x -> x.tile(MIN, what), -1);
            refused("greatest tile " + what, x -> x.tile(MAX, what), -1);
        }
        for (int what : new int[] {-1, 3, MIN, MAX}) {
            refused("tile 0 " + what, x -> x.tile(0, what), -2);
            refused("last tile " + what, x -> x.tile(tiles(x) - 1, what), -2);
            refusedWithSolid("tile under the solid " + what, x -> x.tile(tileOf(x), what), -2);
        }
    }

    private static int tileOf(SolidsRolled x) {
        return isTetra(x) ? x.solid(1) / 2 : x.solid(1);
    }

    private static void tileUnderTheSolid() {
        about("-3 the SOLID lies on it, and a TILE that is so would bar it");
        refusedWithSolid("a hole under the solid", x -> x.tile(tileOf(x), HOLE), -3);
        changesNothing(RefusalsTest::lying, "a hole under the other tile", x -> x.tile(6, HOLE), -3);
        changesNothing(RefusalsTest::lying, "cracked under a long that lies", x -> x.tile(5, CRACKED), -3);
        changesNothing(RefusalsTest::lying, "cracked under its other tile", x -> x.tile(6, CRACKED), -3);
        isTaken(lying(), "floor under a long that lies", x -> x.tile(5, FLOOR));
        isTaken(lying(), "a hole left of it", x -> x.tile(4, HOLE));
        isTaken(lying(), "a hole right of it", x -> x.tile(7, HOLE));
        isTaken(lying(), "a hole above it", x -> x.tile(2, HOLE));
        isTaken(lying(), "a hole below it", x -> x.tile(9, HOLE));
        changesNothing(() -> with("...;...;", HEAVY, 4), "cracked under a heavy", x -> x.tile(4, CRACKED), -3);
        for (int kind : new int[] {CUBE, BLOCK, LONG, TETRA, SHY}) {
            isTaken(with("...;...;", kind, 0), "cracked under " + kind + " that stands", x -> x.tile(0, CRACKED));
        }
        isTaken(rolled(BLOCK, "r"), "cracked under a block that lies", x -> x.tile(1, CRACKED));
        isTaken(rolled(LONG, "rr"), "cracked under a long that stands again", x -> x.tile(3, CRACKED));
        isTaken(shy(), "a hole beside a shy one", x -> x.tile(7, HOLE));
    }

    private static SolidsRolled rolled(int kind, String ways) {
        SolidsRolled x = with("....;....;", kind, 0);
        rolls(x, ways);
        return x;
    }

    private static void of() {
        about("What a TILE is (what 0), its PRINT (1; -9). -1; -2");
        for (int what = 0; what <= 1; what++) {
            int each = what;
            taken("of the last " + what, x -> x.of(tiles(x) - 1, each));
            taken("of 0 " + what, x -> x.of(0, each));
        }
        for (int what : new int[] {-1, 0, 1, 2}) {
            refused("of -1 " + what, x -> x.of(-1, what), -1);
            refused("of no tile " + what, x -> x.of(tiles(x), what), -1);
        }
        refused("of the least", x -> x.of(MIN, 0), -1);
        refused("of the greatest", x -> x.of(MAX, 1), -1);
        for (int what : new int[] {-1, 2, MIN, MAX}) {
            refused("of 0 " + what, x -> x.of(0, what), -2);
        }
    }

    private static void places() {
        about("THE SOLID is of a KIND, placed at a PLACE: 1. -2; -1 (no such TILE; of TETRAS CELL)");
        for (int kind = 0; kind < 6; kind++) {
            int each = kind;
            int halves = kind >= TETRA ? 2 : 1;
            taken(kind + " at the last but five or so", x -> x.places(each, halves * (tiles(x) - 2)));
            isTaken(new SolidsRolled(), kind + " at 0", x -> x.places(each, 0));
            isTaken(new SolidsRolled(), kind + " at the last", x -> x.places(each, halves * 16 - 1));
            refused(kind + " at -1", x -> x.places(each, -1), -1);
            refused(kind + " beyond the last", x -> x.places(each, halves * tiles(x)), -1);
            refused(kind + " at the least", x -> x.places(each, MIN), -1);
            refused(kind + " at the greatest", x -> x.places(each, MAX), -1);
        }
        for (int kind : new int[] {-1, 6, MIN, MAX}) {
            refused("kind " + kind, x -> x.places(kind, 4), -2);
            refused("kind " + kind + ", no place", x -> x.places(kind, -1), -2);
            refused("kind " + kind + ", no place", x -> x.places(kind, 2 * tiles(x)), -2);
        }
    }

    private static void placesThatBar() {
        about("-3 it MAY not lie so");
        for (Supplier<SolidsRolled> made : List.<Supplier<SolidsRolled>>of(RefusalsTest::lying, RefusalsTest::shy)) {
            for (int kind = 0; kind < 6; kind++) {
                int each = kind;
                int place = kind >= TETRA ? 2 : 1;
                changesNothing(made, kind + " on a hole", x -> x.places(each, place), -3);
            }
            changesNothing(made, "tetra on a hole's other half", x -> x.places(TETRA, 3), -3);
            changesNothing(made, "kind ahead of a hole", x -> x.places(6, 1), -2);
            changesNothing(made, "heavy on cracked", x -> x.places(HEAVY, 2), -3);
            isTaken(made.get(), "heavy on floor", x -> x.places(HEAVY, 3));
            isTaken(made.get(), "a heavy that lies where the solid does", x -> x.places(HEAVY, 5));
            for (int kind : new int[] {CUBE, BLOCK, LONG}) {
                isTaken(made.get(), kind + " on cracked", x -> x.places(kind, 2));
            }
            isTaken(made.get(), "tetra on cracked", x -> x.places(TETRA, 4));
            isTaken(made.get(), "shy on cracked", x -> x.places(SHY, 5));
        }
        changesNothing(RefusalsTest::noTetra, "none stays none", x -> x.places(CUBE, 0), -3);
        changesNothing(RefusalsTest::noHeavy, "none stays none", x -> x.places(HEAVY, 0), -3);
    }

    private static void inkAndSolid() {
        about("INK is on (1), or off (0). -2");
        for (int is : new int[] {-1, 2, MIN, MAX}) {
            refused("ink " + is, x -> x.ink(is), -2);
        }
        taken("ink 0", x -> x.ink(0));
        taken("ink 1", x -> x.ink(1));
        about("Of THE SOLID. -2 (what; a face it hasn't); -3 NONE");
        for (int what : new int[] {0, 1, 2, 3, 4, 5, 10, 11, 12, 13}) {
            needsSolid("solid " + what, x -> x.solid(what), -3);
        }
        needsSolid("its last face", x -> x.solid(9 + sides(x)), -3);
        for (int what : new int[] {-1, 6, 7, 8, 9, 16, 17, MIN, MAX}) {
            refused("solid " + what, x -> x.solid(what), -2);
        }
        refused("one face too many", x -> x.solid(10 + sides(x)), -2);
        changesNothing(RefusalsTest::shy, "solid 15 of four faces", x -> x.solid(15), -2);
    }

    // ---- rolls

    private static void rolls() {
        about("A ROLL. -2; -3 it can't be done");
        for (int way : new int[] {-1, 4, MIN, MAX}) {
            refused("roll " + way, x -> x.roll(way), -2);
        }
        for (int way = 0; way < 4; way++) {
            int each = way;
            for (Supplier<SolidsRolled> made : NONE) {
                changesNothing(made, "roll " + way + " with none", x -> x.roll(each), -3);
            }
        }
        changesNothing(SolidsRolled::new, "roll up", x -> x.roll(UP), -3);
        changesNothing(SolidsRolled::new, "roll left", x -> x.roll(LEFT), -3);
        changesNothing(RefusalsTest::lying, "up onto cracked", x -> x.roll(UP), -3);
        changesNothing(RefusalsTest::shy, "beyond above", x -> x.roll(UP), -3);
        changesNothing(RefusalsTest::shy, "onto its own print", x -> x.roll(RIGHT), -3);
        isTaken(new SolidsRolled(), "roll right", x -> x.roll(RIGHT));
        isTaken(new SolidsRolled(), "roll down", x -> x.roll(DOWN));
        about("-3 NONE (letters stay)");
        needsSolid("ways", SolidsRolled::ways, -3);
        needsSolid("walks", SolidsRolled::walks, -3);
        needsSolid("judge", SolidsRolled::judge, -3);
        about("The latest ROLL is UNDONE. -3 there is none");
        changesNothing(SolidsRolled::new, "undo", SolidsRolled::undo, -3);
        changesNothing(RefusalsTest::noTetra, "undo", SolidsRolled::undo, -3);
        changesNothing(RefusalsTest::furnishedAnew, "undo", SolidsRolled::undo, -3);
        isTaken(lying(), "undo", SolidsRolled::undo);
        isTaken(shy(), "undo", SolidsRolled::undo);
    }

    private static SolidsRolled furnishedAnew() {
        SolidsRolled x = furnished();
        x.places(CUBE, 5);
        return x;
    }

    // ---- what can be come to

    private static void reachedAndFill() {
        about("REACHED. -2; -3 NONE");
        for (int what = 0; what <= 3; what++) {
            int each = what;
            needsSolid("reached " + what, x -> x.reached(each), -3);
        }
        for (int what : new int[] {-1, 4, MIN, MAX}) {
            refused("reached " + what, x -> x.reached(what), -2);
        }
        about("FILL. -2; -3 NONE");
        needsSolid("fill 0", x -> x.fill(0), -3);
        needsSolid("fill 1", x -> x.fill(1), -3);
        for (int what : new int[] {-1, 2, MIN, MAX}) {
            refused("fill " + what, x -> x.fill(what), -2);
        }
    }

    private static void soonest() {
        about("SOONEST; -9. -1 (PLACE; face: -1 .. 5, of TETRAS 3); -3 NONE");
        for (int face : new int[] {-1, 0, 3}) {
            needsSolid("to 0, " + face, x -> x.soonest(0, face), -3);
            needsSolid("to the last, " + face, x -> x.soonest(placesOf(x) - 1, face), -3);
            refused("to -1, " + face, x -> x.soonest(-1, face), -1);
            refused("beyond the last, " + face, x -> x.soonest(placesOf(x), face), -1);
        }
        needsSolid("its last face", x -> x.soonest(0, sides(x) - 1), -3);
        refused("one face too many", x -> x.soonest(0, sides(x)), -1);
        for (int face : new int[] {-2, 6, MIN, MAX}) {
            refused("face " + face, x -> x.soonest(0, face), -1);
        }
        refused("the least place", x -> x.soonest(MIN, -1), -1);
        refused("the greatest place", x -> x.soonest(MAX, -1), -1);
        changesNothing(RefusalsTest::shy, "face 5 of four", x -> x.soonest(0, 5), -1);
        changesNothing(RefusalsTest::noTetra, "face 4 of four", x -> x.soonest(0, 4), -1);
    }

    private static void walk() {
        about("THE WALK: its i-th WAY. -1 likewise; -4 (i); -3 NONE");
        for (int i : new int[] {0, 1, MAX}) {
            needsSolid("way " + i, x -> x.walk(1, -1, i), -3);
            needsSolid("way " + i + " to the last", x -> x.walk(placesOf(x) - 1, sides(x) - 1, i), -3);
        }
        for (int i : new int[] {-1, MIN}) {
            refused("way " + i, x -> x.walk(1, -1, i), -4);
            refused("way " + i + " to the last", x -> x.walk(placesOf(x) - 1, sides(x) - 1, i), -4);
        }
        for (int i : new int[] {-1, 0}) {
            refused("to -1, way " + i, x -> x.walk(-1, -1, i), -1);
            refused("beyond the last, way " + i, x -> x.walk(placesOf(x), -1, i), -1);
            refused("face -2, way " + i, x -> x.walk(0, -2, i), -1);
            refused("one face too many, way " + i, x -> x.walk(0, sides(x), i), -1);
        }
        refused("the least place", x -> x.walk(MIN, -1, 0), -1);
        refused("the greatest place", x -> x.walk(MAX, -1, 0), -1);
        refused("the least face", x -> x.walk(0, MIN, 0), -1);
        refused("the greatest face", x -> x.walk(0, MAX, 0), -1);
    }

    private static void facesAndNeeded() {
        about("FACES (bits). -1 PLACE; -3 NONE");
        needsSolid("faces at 0", x -> x.faces(0), -3);
        needsSolid("faces at the last", x -> x.faces(placesOf(x) - 1), -3);
        about("NEEDED (bits). Refused as told: -1 PLACE; -3 NONE");
        needsSolid("needed for 0", x -> x.needed(0), STATE);
        needsSolid("needed for the last", x -> x.needed(placesOf(x) - 1), STATE);
        for (int place : new int[] {-1, MIN, MAX}) {
            refused("faces at " + place, x -> x.faces(place), -1);
            refused("needed for " + place, x -> x.needed(place), NOBODY);
        }
        refused("faces beyond the last", x -> x.faces(placesOf(x)), -1);
        refused("needed beyond the last", x -> x.needed(placesOf(x)), NOBODY);
    }

    private static void paint() {
        about("PAINT; -9. -1 (TILE; face: 0 .. 5, of TETRAS 3); -3 NONE");
        for (int face : new int[] {0, 3}) {
            needsSolid("paint 0 " + face, x -> x.paint(0, face), -3);
            needsSolid("paint the last " + face, x -> x.paint(tiles(x) - 1, face), -3);
            refused("paint -1 " + face, x -> x.paint(-1, face), -1);
            refused("paint beyond the last " + face, x -> x.paint(tiles(x), face), -1);
        }
        needsSolid("its last face", x -> x.paint(0, sides(x) - 1), -3);
        refused("one face too many", x -> x.paint(0, sides(x)), -1);
        for (int face : new int[] {-1, 6, MIN, MAX}) {
            refused("face " + face, x -> x.paint(0, face), -1);
        }
        refused("the least tile", x -> x.paint(MIN, 0), -1);
        refused("the greatest tile", x -> x.paint(MAX, 0), -1);
    }

    private static void likely() {
        about("LIKELY. Refused as told: -1 PLACE; -4 (n); -6 12; -2; -3 NONE");
        for (int part = 0; part <= 1; part++) {
            int each = part;
            needsSolid("no rolls, part " + part, x -> x.likely(0, 0, each), STATE);
            needsSolid("12 rolls, part " + part, x -> x.likely(12, placesOf(x) - 1, each), STATE);
        }
        for (int n : new int[] {-1, 0, 12, 13}) {
            refused("beyond the last, n " + n, x -> x.likely(n, placesOf(x), 0), NOBODY);
            refused("place -1, n " + n + ", no part", x -> x.likely(n, -1, 2), NOBODY);
        }
        refused("the least place", x -> x.likely(1, MIN, 0), NOBODY);
        refused("the greatest place", x -> x.likely(1, MAX, 0), NOBODY);
        for (int part : new int[] {-1, 0, 1, 2}) {
            refused("n -1, part " + part, x -> x.likely(-1, 0, part), BELOW);
            refused("the least n, part " + part, x -> x.likely(MIN, 0, part), BELOW);
            refused("n 13, part " + part, x -> x.likely(13, 0, part), ROOM);
            refused("the greatest n, part " + part, x -> x.likely(MAX, 0, part), ROOM);
        }
        for (int part : new int[] {-1, 2, MIN, MAX}) {
            refused("part " + part, x -> x.likely(0, 0, part), OTHER);
            refused("12 rolls, part " + part, x -> x.likely(12, placesOf(x) - 1, part), OTHER);
        }
    }

    private static void lots() {
        about("LOTS. -4 (below 1); -6 50; -2; -3 NONE");
        for (int what = 0; what <= 1; what++) {
            int each = what;
            needsSolid("one roll, what " + what, x -> x.lots(1, 7, each), -3);
            needsSolid("50 rolls, what " + what, x -> x.lots(50, MIN, each), -3);
        }
        for (int what : new int[] {-1, 0, 1, 2}) {
            refused("n 0, what " + what, x -> x.lots(0, 7, what), -4);
            refused("the least n, what " + what, x -> x.lots(MIN, 7, what), -4);
            refused("n 51, what " + what, x -> x.lots(51, 7, what), -6);
            refused("the greatest n, what " + what, x -> x.lots(MAX, 7, what), -6);
        }
        for (int what : new int[] {-1, 2, MIN, MAX}) {
            refused("what " + what, x -> x.lots(1, 7, what), -2);
            refused("50 rolls, what " + what, x -> x.lots(50, 7, what), -2);
        }
    }

    // ---- lists, racks

    private static void list() {
        about("A LIST becomes a row of n ints. -1; -6 40; -14");
        for (int n : new int[] {0, 1, 39, 40}) {
            taken("list 0 of " + n, x -> x.list(0, n));
            taken("list 2 of " + n, x -> x.list(2, n));
        }
        for (int n : new int[] {-1, 0, 40, 41}) {
            refused("list -1 of " + n, x -> x.list(-1, n), -1);
            refused("list 3 of " + n, x -> x.list(3, n), -1);
        }
        refused("the least list", x -> x.list(MIN, 1), -1);
        refused("the greatest list", x -> x.list(MAX, 1), -1);
        for (int list = 0; list < 3; list++) {
            int each = list;
            refused("41 ints in " + list, x -> x.list(each, 41), -6);
            refused("the most ints in " + list, x -> x.list(each, MAX), -6);
            refused("-1 ints in " + list, x -> x.list(each, -1), -14);
            refused("the least ints in " + list, x -> x.list(each, MIN), -14);
        }
    }

    /** Of the furnished objects LIST 0 has 3 places, LIST 1 has 40, LIST 2 is missing. */
    private static SolidsRolled withLists() {
        SolidsRolled x = furnished();
        x.list(2, 0);
        x.places(BLOCK, 4);
        return x;
    }

    private static void putAndLook() {
        about("Place i of a LIST. -1; -11; -13");
        for (int i : new int[] {-1, 0, 3, 40}) {
            for (int list : new int[] {-1, 3, MIN, MAX}) {
                refused("put " + list + " " + i, x -> x.put(list, i, 1), -1);
                refused("look " + list + " " + i, x -> x.look(list, i), NOBODY);
            }
            changesNothing(RefusalsTest::lying, "missing, put " + i, x -> x.put(2, i, 1), -11);
            changesNothing(RefusalsTest::lying, "missing, look " + i, x -> x.look(2, i), MISSING);
        }
        for (int i : new int[] {-1, 3, 40, MIN, MAX}) {
            changesNothing(RefusalsTest::lying, "of 3, put " + i, x -> x.put(0, i, 1), -13);
            changesNothing(RefusalsTest::lying, "of 3, look " + i, x -> x.look(0, i), NO_PLACE);
        }
        for (int i : new int[] {-1, 40, MIN, MAX}) {
            changesNothing(RefusalsTest::lying, "of 40, put " + i, x -> x.put(1, i, 1), -13);
            changesNothing(RefusalsTest::lying, "of 40, look " + i, x -> x.look(1, i), NO_PLACE);
        }
        for (int i : new int[] {-1, 0, 1}) {
            changesNothing(RefusalsTest::withLists, "of none, put " + i, x -> x.put(2, i, 1), -13);
            changesNothing(RefusalsTest::withLists, "of none, look " + i, x -> x.look(2, i), NO_PLACE);
        }
        for (int i : new int[] {0, 2}) {
            isTaken(lying(), "of 3, put " + i, x -> x.put(0, i, 1));
            isTaken(lying(), "of 3, look " + i, x -> x.look(0, i));
        }
        isTaken(lying(), "of 40, put 39", x -> x.put(1, 39, 1));
        isTaken(lying(), "of 40, look 39", x -> x.look(1, 39));
    }

    private static void laysAndTells() {
        about("PRINTS are LAID into a LIST. -1; -11; -13; TOLD PRINTS by a LIST. -1; -11");
        for (int list : new int[] {-1, 3, MIN, MAX}) {
            for (int i : new int[] {-1, 0, 40}) {
                refused("lays " + list + " " + i, x -> x.lays(list, i), -1);
            }
            refused("tells " + list, x -> x.tells(list), -1);
        }
        for (int i : new int[] {-1, 0, 40}) {
            changesNothing(RefusalsTest::lying, "missing, lays " + i, x -> x.lays(2, i), -11);
        }
        changesNothing(RefusalsTest::lying, "missing, tells", x -> x.tells(2), -11);
        for (int i : new int[] {-1, 3, MIN, MAX}) {
            changesNothing(RefusalsTest::lying, "of 3, lays " + i, x -> x.lays(0, i), -13);
        }
        for (int i : new int[] {-12, -1, 40, MAX - 1, MAX}) {
            changesNothing(RefusalsTest::lying, "of 40, lays " + i, x -> x.lays(1, i), -13);
        }
        changesNothing(RefusalsTest::withLists, "of none, lays 0", x -> x.lays(2, 0), -13);
        changesNothing(RefusalsTest::withLists, "of none, tells", x -> x.tells(2), -9);
        isTaken(lying(), "the last place for 12", x -> x.lays(1, 28));
        isTaken(lying(), "one further", x -> x.lays(1, 29));
        isTaken(lying(), "tells", x -> x.tells(1));
    }

    private static void rack() {
        about("A RACK becomes a row of n made for a KIND. -1; -2; -6 9; -14");
        for (int n : new int[] {0, 1, 9}) {
            taken("rack 0 for 0 of " + n, x -> x.rack(0, 0, n));
            taken("rack 2 for 5 of " + n, x -> x.rack(2, 5, n));
        }
        for (int n : new int[] {-1, 0, 9, 10}) {
            for (int kind : new int[] {-1, 0, 6}) {
                refused("rack -1 for " + kind + " of " + n, x -> x.rack(-1, kind, n), -1);
                refused("rack 3 for " + kind + " of " + n, x -> x.rack(3, kind, n), -1);
            }
            for (int kind : new int[] {-1, 6, MIN, MAX}) {
                refused("rack 0 for " + kind + " of " + n, x -> x.rack(0, kind, n), -2);
            }
        }
        refused("the least rack", x -> x.rack(MIN, 0, 1), -1);
        refused("the greatest rack", x -> x.rack(MAX, 0, 1), -1);
        for (int rack = 0; rack < 3; rack++) {
            int each = rack;
            refused("10 places in " + rack, x -> x.rack(each, 0, 10), -6);
            refused("the most places in " + rack, x -> x.rack(each, 5, MAX), -6);
            refused("-1 places in " + rack, x -> x.rack(each, 0, -1), -14);
            refused("the least places in " + rack, x -> x.rack(each, 5, MIN), -14);
        }
    }

    private static void racks() {
        about("THE SOLID, or nothing, is laid into place i of a RACK. -1; -2; -3 NONE; -11; -13; -16");
        for (int rack : new int[] {-1, 3, MIN, MAX}) {
            for (int what : new int[] {-1, 0, 1, 2}) {
                refused("racks " + rack + " what " + what, x -> x.racks(rack, 0, what), -1);
            }
        }
        for (int what : new int[] {-1, 2, MIN, MAX}) {
            refused("what " + what, x -> x.racks(1, 0, what), -2);
            refused("missing, what " + what, x -> x.racks(2, 0, what), -2);
            refused("no place, what " + what, x -> x.racks(1, 9, what), -2);
        }
        for (Supplier<SolidsRolled> made : NONE) {
            changesNothing(made, "none", x -> x.racks(1, 0, 1), -3);
            changesNothing(made, "none, missing", x -> x.racks(2, 0, 1), -3);
            changesNothing(made, "none, no place", x -> x.racks(1, 9, 1), -3);
            changesNothing(made, "none, not made for it", x -> x.racks(0, 0, 1), -3);
            changesNothing(made, "nothing, missing", x -> x.racks(2, 0, 0), -11);
            changesNothing(made, "nothing, no place", x -> x.racks(1, 9, 0), -13);
            isTaken(made.get(), "nothing in place of a cube", x -> x.racks(1, 2, 0));
        }
        for (int i : new int[] {-1, 0, 9}) {
            changesNothing(RefusalsTest::lying, "missing, place " + i, x -> x.racks(2, i, 1), -11);
            changesNothing(RefusalsTest::lying, "missing, nothing, place " + i, x -> x.racks(2, i, 0), -11);
        }
        for (int i : new int[] {-1, 2, 9, MIN, MAX}) {
            changesNothing(RefusalsTest::lying, "of 2, place " + i, x -> x.racks(0, i, 1), -13);
            changesNothing(RefusalsTest::lying, "of 2, nothing, place " + i, x -> x.racks(0, i, 0), -13);
            changesNothing(RefusalsTest::shy, "not made for it, place " + i, x -> x.racks(0, i, 1), -13);
        }
        changesNothing(RefusalsTest::lying, "of 9, place 9", x -> x.racks(1, 9, 1), -13);
        changesNothing(RefusalsTest::lying, "of 9, not made for it", x -> x.racks(1, 8, 1), -16);
        changesNothing(RefusalsTest::shy, "of 2, not made for it", x -> x.racks(0, 1, 1), -16);
        isTaken(lying(), "of 2, place 0", x -> x.racks(0, 0, 1));
        isTaken(lying(), "of 2, place 1", x -> x.racks(0, 1, 1));
        isTaken(lying(), "of 9, nothing, place 8", x -> x.racks(1, 8, 0));
    }

    private static void racked() {
        about("What lies in place i of a RACK; -9: nothing. -1; -2; -11; -13");
        for (int rack : new int[] {-1, 3, MIN, MAX}) {
            for (int what : new int[] {-1, 0, 1, 2}) {
                refused("racked " + rack + " what " + what, x -> x.racked(rack, 0, what), -1);
            }
        }
        for (int what : new int[] {-1, 2, MIN, MAX}) {
            refused("what " + what, x -> x.racked(1, 2, what), -2);
            refused("missing, what " + what, x -> x.racked(2, 0, what), -2);
            refused("no place, what " + what, x -> x.racked(1, 9, what), -2);
        }
        for (int what = 0; what <= 1; what++) {
            int each = what;
            for (int i : new int[] {-1, 0, 9}) {
                refused("missing, place " + i, x -> x.racked(2, i, each), -11);
            }
            for (int i : new int[] {-1, 2, MIN, MAX}) {
                furnishedAnswers("of 2, place " + i, x -> x.racked(0, i, each), -13);
            }
            furnishedAnswers("of 9, place 9", x -> x.racked(1, 9, each), -13);
            furnishedAnswers("nothing in place 0", x -> x.racked(0, 0, each), -9);
            furnishedAnswers("nothing in place 8", x -> x.racked(1, 8, each), -9);
            taken("what lies in place 2", x -> x.racked(1, 2, each));
        }
    }

    private static void likeAndOn() {
        about("A RACK becomes a row like another one. -1 either; -11 the other");
        for (int bad : new int[] {-1, 3, MIN, MAX}) {
            for (int rack : new int[] {-1, 0, 2, 3}) {
                refused("like " + bad + " " + rack, x -> x.like(bad, rack), -1);
                refused("like " + rack + " " + bad, x -> x.like(rack, bad), -1);
            }
        }
        for (int rack = 0; rack < 3; rack++) {
            int each = rack;
            furnishedAnswers("like a missing one " + rack, x -> x.like(each, 2), -11);
            changesNothing(SolidsRolled::new, "like a missing one " + rack, x -> x.like(each, 2), -11);
        }
        isTaken(lying(), "a missing one becomes like another", x -> x.like(2, 0));
        isTaken(lying(), "like itself", x -> x.like(1, 1));
        about("ON from THE IMAGE. -3 there is no IMAGE");
        changesNothing(SolidsRolled::new, "on", SolidsRolled::on, -3);
        changesNothing(() -> rolled(BLOCK, "rrl"), "on", SolidsRolled::on, -3);
        changesNothing(() -> none(TETRA), "on", SolidsRolled::on, -3);
        isTaken(lying(), "on", SolidsRolled::on);
        isTaken(noTetra(), "on", SolidsRolled::on);
    }

    /** Answers below 0 that are no REFUSALS; the calls that only ask change nothing. */
    private static void uncounted() {
        about("Not counted; -9");
        changesNothing(RefusalsTest::lying, "no print", x -> x.of(0, 1), -9);
        changesNothing(RefusalsTest::lying, "not come to", x -> x.soonest(1, -1), -9);
        changesNothing(RefusalsTest::lying, "no walk", x -> x.walk(1, -1, 0), -9);
        changesNothing(RefusalsTest::lying, "never painted", x -> x.paint(1, 0), -9);
        changesNothing(() -> with("...;", CUBE, 0), "nothing to fill", x -> x.fill(0), -9);
        changesNothing(() -> with("...;", CUBE, 0), "nothing to fill", x -> x.fill(1), -9);
        changesNothing(() -> rolled(CUBE, "r"), "a walk without letters", SolidsRolled::judge, -9);
        for (int what : new int[] {-1, 9, 10, 17, MIN, MAX}) {
            refused("count " + what, x -> x.count(what), -9);
        }
        about("the FAULT (not counted)");
        isTaken(lying(), "a fault", x -> x.board() + 1000);
        SolidsRolled x = lying();
        is("the fault", x.board(), -1000);
        refusals(x, 0, 0, 0, 0, 0, 0);
        about("THE IMAGE is taken: PLACE (-9 NONE)");
        isTaken(noTetra(), "image", SolidsRolled::image);
        is("image of none", noTetra().image(), -9);
    }
}
