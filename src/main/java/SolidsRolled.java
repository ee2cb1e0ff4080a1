import java.util.Arrays;

/** Solids rolled over tiles; what each call promises stands in the document (shared/DOC.md). */
public final class SolidsRolled {
    private static final int NOBODY = -1;
    private static final int OTHER = -2;
    private static final int STATE = -3;
    private static final int BELOW = -4;
    private static final int ROOM = -6;
    private static final int MISSING = -11;
    private static final int NO_PLACE = -13;
    private static final int BELOW_EMPTY = -14;
    private static final int NOT_MADE_FOR = -16;
    private static final int NOTHING = -9;
    private static final int FAULT = -1000;
    private static final long LONG_REFUSAL = 4000000000000000000L;

    private static final int UP = 0;
    private static final int RIGHT = 1;
    private static final int DOWN = 2;
    private static final int LEFT = 3;
    private static final int WAYS = 4;

    private static final int FLOOR = 0;
    private static final int HOLE = 1;
    private static final int CRACKED = 2;
    private static final int NO_PRINT = -1;

    private static final int CUBE = 0;
    private static final int HEAVY = 1;
    private static final int BLOCK = 2;
    private static final int LONG = 3;
    private static final int TETRA = 4;
    private static final int SHY = 5;
    private static final int KINDS = 6;

    private static final int MOST_ROWS = 6;
    private static final int MOST_COLUMNS = 6;
    private static final int MOST_TILES = 36;
    private static final int MOST_LETTERS = 72;
    private static final int GREATEST_LETTER = 255;
    private static final int MOST_UNDONE = 20;
    private static final int LISTS = 3;
    private static final int LIST_ROOM = 40;
    private static final int RACKS = 3;
    private static final int RACK_ROOM = 9;
    private static final int MOST_LIKELY_ROLLS = 12;
    private static final int MOST_LOTS = 50;
    private static final int WITHOUT_SIGN = 0x7fffffff;

    private static final int STANCES = 24;
    private static final int MOST_STATES = 2 * MOST_TILES * STANCES;
    private static final int NONE = -1;
    private static final int ANY_FACE = -1;

    private static final int CUBE_SIDES = 6;
    private static final int CUBE_BOTTOM = 1;
    private static final int TETRA_SIDES = 4;
    private static final int TETRA_BELOW = 0;

    /* For each WAY in turn: which old position the face at each new position comes from. */
    private static final int[] CUBE_TURNS = {
        4, 2, 0, 3, 1, 5,
        5, 3, 2, 0, 4, 1,
        2, 4, 1, 3, 0, 5,
        3, 5, 2, 1, 4, 0};
    private static final int[] TETRA_TURNS = {
        3, 1, 2, 0,
        2, 0, 3, 1,
        3, 1, 2, 0,
        1, 3, 0, 2};

    private final World world;
    private final World imaged;
    private boolean hasImage;
    private final Letters letters;
    private final Search search;
    private final History history;
    private final Row[] lists;
    private final Rack[] shelves;
    private final int[] refused;

    public SolidsRolled() {
        Stances cubes = new Stances(CUBE_SIDES, CUBE_BOTTOM, CUBE_TURNS);
        Stances tetras = new Stances(TETRA_SIDES, TETRA_BELOW, TETRA_TURNS);
        world = new World(cubes, tetras);
        imaged = new World(cubes, tetras);
        hasImage = false;
        letters = new Letters();
        search = new Search();
        history = new History();
        lists = new Row[LISTS];
        for (int i = 0; i < LISTS; i++) {
            lists[i] = new Row();
        }
        shelves = new Rack[RACKS];
        for (int i = 0; i < RACKS; i++) {
            shelves[i] = new Rack();
        }
        refused = new int[-ROOM + 1];
    }

    // ---- the board, the solid

    public int letter(int c) {
        if (c < 0) {
            return refuse(BELOW);
        }
        if (c > GREATEST_LETTER || letters.isFull()) {
            return refuse(ROOM);
        }
        letters.append(c);
        return letters.size;
    }

    public int board() {
        int fault = letters.boardFault();
        if (fault < 0) {
            world.readBoard(letters);
            history.forget();
        }
        letters.clear();
        return fault < 0 ? world.tileCount() : FAULT - fault;
    }

    public int tile(int tile, int what) {
        if (!world.hasTile(tile)) {
            return refuse(NOBODY);
        }
        if (what < FLOOR || what > CRACKED) {
            return refuse(OTHER);
        }
        if (world.isOn(tile) && world.wouldBar(what)) {
            return refuse(STATE);
        }
        int old = world.tiles[tile];
        world.tiles[tile] = what;
        return old;
    }

    public int of(int tile, int what) {
        if (!world.hasTile(tile)) {
            return refuse(NOBODY);
        }
        if (what < 0 || what > 1) {
            return refuse(OTHER);
        }
        if (what == 0) {
            return world.tiles[tile];
        }
        return world.prints[tile] == NO_PRINT ? NOTHING : world.prints[tile];
    }

    public int places(int kind, int place) {
        if (!isKind(kind)) {
            return refuse(OTHER);
        }
        if (!world.hasPlace(kind, place)) {
            return refuse(NOBODY);
        }
        if (!world.mayBePlaced(kind, place)) {
            return refuse(STATE);
        }
        world.setSolid(kind, place);
        history.forget();
        return 1;
    }

    public int ink(int is) {
        if (is < 0 || is > 1) {
            return refuse(OTHER);
        }
        int old = world.ink;
        world.ink = is;
        return old;
    }

    public int wipes() {
        int bore = world.countPrints();
        world.clearPrints();
        return bore;
    }

    public int solid(int what) {
        boolean plain = what >= 0 && what <= 5;
        boolean face = what >= 10 && what < 10 + world.stances().sides;
        if (!plain && !face) {
            return refuse(OTHER);
        }
        if (world.isNone()) {
            return refuse(STATE);
        }
        return face ? world.positionOf(what - 10) : aboutSolid(what);
    }

    private int aboutSolid(int what) {
        switch (what) {
            case 0:
                return world.kind;
            case 1:
                return world.placeNow();
            case 2:
                return world.faceBelow(world.state);
            case 3:
                return Long.bitCount(world.tilesUnder(world.state));
            case 4:
                return isBlock(world.kind) && world.stands(world.state) ? 1 : 0;
            default:
                return isTetra(world.kind) && world.pointsUp(world.placeNow()) ? 1 : 0;
        }
    }

    // ---- rolls

    public int roll(int way) {
        if (way < 0 || way >= WAYS) {
            return refuse(OTHER);
        }
        if (world.isNone() || !rollTruly(way)) {
            return refuse(STATE);
        }
        return world.faceBelow(world.state);
    }

    private boolean rollTruly(int way) {
        int next = world.rolled(world.state, way);
        if (next < 0) {
            return false;
        }
        history.keep(world);
        world.state = next;
        if (world.ink == 1) {
            world.printBelow();
        }
        return true;
    }

    public int ways() {
        if (world.isNone()) {
            return refuse(STATE);
        }
        int can = 0;
        for (int way = 0; way < WAYS; way++) {
            if (world.rolled(world.state, way) >= 0) {
                can |= 1 << way;
            }
        }
        return can;
    }

    public int walks() {
        if (world.isNone()) {
            return refuse(STATE);
        }
        int done = 0;
        boolean going = true;
        for (int i = 0; i < letters.size && going; i++) {
            int way = letters.wayAt(i);
            going = way >= 0 && rollTruly(way);
            if (going) {
                done++;
            }
        }
        letters.clear();
        return done;
    }

    public int judge() {
        if (world.isNone()) {
            return refuse(STATE);
        }
        int state = world.state;
        for (int i = 0; i < letters.size; i++) {
            int way = letters.wayAt(i);
            state = way < 0 ? NONE : world.rolled(state, way);
            if (state < 0) {
                return i;
            }
        }
        return NOTHING;
    }

    public int undo() {
        if (history.size == 0) {
            return refuse(STATE);
        }
        history.bringBack(world);
        return history.size;
    }

    // ---- what can be come to

    public int reached(int what) {
        if (what < 0 || what > 3) {
            return refuse(OTHER);
        }
        if (world.isNone()) {
            return refuse(STATE);
        }
        if (what == 2) {
            return search.hasEven(world) ? 1 : 0;
        }
        search.floodAll(world);
        if (what == 0) {
            return search.size;
        }
        return what == 1 ? search.countPlaces() : search.farthest();
    }

    public int soonest(int place, int face) {
        if (!isGoal(place, face)) {
            return refuse(NOBODY);
        }
        if (world.isNone()) {
            return refuse(STATE);
        }
        int goal = search.floodTo(world, place, face);
        return goal < 0 ? NOTHING : search.steps[goal];
    }

    public int walk(int place, int face, int i) {
        if (!isGoal(place, face)) {
            return refuse(NOBODY);
        }
        if (i < 0) {
            return refuse(BELOW);
        }
        if (world.isNone()) {
            return refuse(STATE);
        }
        int goal = search.floodTo(world, place, face);
        return goal < 0 || i >= search.steps[goal] ? NOTHING : search.wayToward(goal, i);
    }

    public int faces(int place) {
        if (!world.hasPlace(world.kind, place)) {
            return refuse(NOBODY);
        }
        if (world.isNone()) {
            return refuse(STATE);
        }
        search.floodAll(world);
        return search.facesAt(world, place);
    }

    public int fill(int what) {
        if (what < 0 || what > 1) {
            return refuse(OTHER);
        }
        if (world.isNone()) {
            return refuse(STATE);
        }
        int hole = search.bestFilled(world);
        if (hole < 0) {
            return NOTHING;
        }
        return what == 0 ? hole : search.statesFilled(world, hole);
    }

    public long needed(int place) {
        if (!world.hasPlace(world.kind, place)) {
            return refuseLong(NOBODY);
        }
        if (world.isNone()) {
            return refuseLong(STATE);
        }
        return search.tilesNeeded(world, place);
    }

    public int paint(int tile, int face) {
        if (!world.hasTile(tile) || !isFace(face)) {
            return refuse(NOBODY);
        }
        if (world.isNone()) {
            return refuse(STATE);
        }
        return world.prints[tile] == face ? 0 : search.rollsToPaint(world, tile, face);
    }

    public long likely(int n, int place, int part) {
        if (!world.hasPlace(world.kind, place)) {
            return refuseLong(NOBODY);
        }
        if (n < 0) {
            return refuseLong(BELOW);
        }
        if (n > MOST_LIKELY_ROLLS) {
            return refuseLong(ROOM);
        }
        if (part < 0 || part > 1) {
            return refuseLong(OTHER);
        }
        if (world.isNone()) {
            return refuseLong(STATE);
        }
        return partInLeastTerms(search.walksEndingAt(world, n, place), 2 * n, part);
    }

    /* The line below is a power of 2, so that nothing but halving shortens the fraction. */
    private static long partInLeastTerms(long above, int halvings, int part) {
        if (above == 0) {
            return part;
        }
        long shorter = above;
        int left = halvings;
        for (int i = 0; i < halvings && shorter % 2 == 0; i++) {
            shorter /= 2;
            left--;
        }
        return part == 0 ? shorter : 1L << left;
    }

    public int lots(int n, int z, int what) {
        if (n < 1) {
            return refuse(BELOW);
        }
        if (n > MOST_LOTS) {
            return refuse(ROOM);
        }
        if (what < 0 || what > 1) {
            return refuse(OTHER);
        }
        if (world.isNone()) {
            return refuse(STATE);
        }
        int seed = z;
        int state = world.state;
        int done = 0;
        for (int i = 0; i < n; i++) {
            seed = seed * 1664525 + 1013904223;
            int next = world.rolled(state, (seed & WITHOUT_SIGN) / 256 % WAYS);
            if (next >= 0) {
                state = next;
                done++;
            }
        }
        return what == 0 ? done : state / STANCES;
    }

    // ---- lists, racks

    public int list(int list, int n) {
        if (!isList(list)) {
            return refuse(NOBODY);
        }
        if (n > LIST_ROOM) {
            return refuse(ROOM);
        }
        if (n < 0) {
            return BELOW_EMPTY;
        }
        lists[list].begin(n);
        return 1;
    }

    public int put(int list, int i, int v) {
        if (!isList(list)) {
            return refuse(NOBODY);
        }
        int lack = lists[list].lackAt(i);
        if (lack < 0) {
            return lack;
        }
        lists[list].values[i] = v;
        return 1;
    }

    public long look(int list, int i) {
        if (!isList(list)) {
            return refuseLong(NOBODY);
        }
        int lack = lists[list].lackAt(i);
        return lack < 0 ? LONG_REFUSAL - lack : lists[list].values[i];
    }

    public int lays(int list, int i) {
        if (!isList(list)) {
            return refuse(NOBODY);
        }
        Row row = lists[list];
        for (int t = 0; t < world.tileCount(); t++) {
            // A start near the greatest int has no place anyway, and must not wrap round to one.
            int lack = row.lackAt(i > LIST_ROOM ? LIST_ROOM : i + t);
            if (lack < 0) {
                return lack;
            }
            row.values[i + t] = world.prints[t];
        }
        return world.tileCount();
    }

    public int tells(int list) {
        if (!isList(list)) {
            return refuse(NOBODY);
        }
        Row row = lists[list];
        if (row.isMissing()) {
            return MISSING;
        }
        for (int t = 0; t < row.size; t++) {
            if (!world.hasTile(t) || row.values[t] != world.prints[t]) {
                return t;
            }
        }
        return NOTHING;
    }

    public int rack(int rack, int kind, int n) {
        if (!isRack(rack)) {
            return refuse(NOBODY);
        }
        if (!isKind(kind)) {
            return refuse(OTHER);
        }
        if (n > RACK_ROOM) {
            return refuse(ROOM);
        }
        if (n < 0) {
            return BELOW_EMPTY;
        }
        shelves[rack].begin(kind, n);
        return 1;
    }

    public int racks(int rack, int i, int what) {
        if (!isRack(rack)) {
            return refuse(NOBODY);
        }
        if (what < 0 || what > 1) {
            return refuse(OTHER);
        }
        if (what == 1 && world.isNone()) {
            return refuse(STATE);
        }
        Rack shelf = shelves[rack];
        int lack = shelf.lackAt(i);
        if (lack < 0) {
            return lack;
        }
        if (what == 0) {
            shelf.empty(i);
            return 1;
        }
        if (!isUnder(world.kind, shelf.madeFor)) {
            return NOT_MADE_FOR;
        }
        shelf.store(i, world.kind, world.faceBelow(world.state));
        return 1;
    }

    public int racked(int rack, int i, int what) {
        if (!isRack(rack)) {
            return refuse(NOBODY);
        }
        if (what < 0 || what > 1) {
            return refuse(OTHER);
        }
        Rack shelf = shelves[rack];
        int lack = shelf.lackAt(i);
        if (lack < 0) {
            return lack;
        }
        if (shelf.isEmptyAt(i)) {
            return NOTHING;
        }
        return what == 0 ? shelf.kinds[i] : shelf.below[i];
    }

    public int like(int rack, int other) {
        if (!isRack(rack) || !isRack(other)) {
            return refuse(NOBODY);
        }
        if (shelves[other].isMissing()) {
            return MISSING;
        }
        shelves[rack].copyFrom(shelves[other]);
        return shelves[rack].size;
    }

    // ---- the image, what is told

    public int image() {
        imaged.copyFrom(world);
        hasImage = true;
        return placeOrNothing();
    }

    public int on() {
        if (!hasImage) {
            return refuse(STATE);
        }
        world.copyFrom(imaged);
        history.forget();
        return placeOrNothing();
    }

    private int placeOrNothing() {
        return world.isNone() ? NOTHING : world.placeNow();
    }

    public int count(int what) {
        if (what >= 11 && what <= 16) {
            return refused[what - 10];
        }
        switch (what) {
            case 0:
                return world.rows;
            case 1:
                return world.columns;
            case 2:
                return world.countTiles(HOLE);
            case 3:
                return world.countTiles(CRACKED);
            case 4:
                return world.countPrints();
            case 5:
                return world.ink;
            case 6:
                return letters.size;
            case 7:
                return history.size;
            case 8:
                return world.kind;
            default:
                return NOTHING;
        }
    }

    // ---- what the calls share

    private int refuse(int refusal) {
        int place = -refusal;
        if (place >= 0 && place < refused.length) {
            refused[place]++;
        }
        return refusal;
    }

    private long refuseLong(int refusal) {
        return LONG_REFUSAL - refuse(refusal);
    }

    private boolean isGoal(int place, int face) {
        return world.hasPlace(world.kind, place) && (face == ANY_FACE || isFace(face));
    }

    private boolean isFace(int face) {
        return face >= 0 && face < world.stances().sides;
    }

    private static boolean isList(int list) {
        return list >= 0 && list < LISTS;
    }

    private static boolean isRack(int rack) {
        return rack >= 0 && rack < RACKS;
    }

    /** Why a LIST or a RACK of a size (NONE: missing) has no place i, or 0. */
    private static int lackOf(int size, int i) {
        if (size < 0) {
            return MISSING;
        }
        return i < 0 || i >= size ? NO_PLACE : 0;
    }

    private static boolean isKind(int kind) {
        return kind >= 0 && kind < KINDS;
    }

    private static boolean isBlock(int kind) {
        return kind == BLOCK || kind == LONG;
    }

    private static boolean isTetra(int kind) {
        return kind == TETRA || kind == SHY;
    }

    /** Whether a KIND is another one or stands under it. */
    private static boolean isUnder(int kind, int upper) {
        return kind == upper
            || kind == HEAVY && upper == CUBE
            || kind == LONG && upper == BLOCK
            || kind == SHY && upper == TETRA;
    }

    /** The 24 ways in which the faces of a solid can be turned; stance 0 is as it is placed. */
    private static final class Stances {
        final int sides;
        private final int bottom;
        private final int[] faceAt;
        private final int[] positions;
        private final int[] turned;
        private int known;

        Stances(int sides, int bottom, int[] turns) {
            this.sides = sides;
            this.bottom = bottom;
            faceAt = new int[STANCES * sides];
            positions = new int[STANCES * sides];
            turned = new int[STANCES * WAYS];
            known = 1;
            for (int position = 0; position < sides; position++) {
                faceAt[position] = position;
            }
            int[] tried = new int[sides];
            for (int stance = 0; stance < STANCES && stance < known; stance++) {
                for (int way = 0; way < WAYS; way++) {
                    for (int position = 0; position < sides; position++) {
                        tried[position] = faceAt[stance * sides + turns[way * sides + position]];
                    }
                    turned[stance * WAYS + way] = knownAs(tried);
                }
            }
            tellPositions();
        }

        /** The stance whose faces are as tried; a new one becomes the first that was not yet known. */
        private int knownAs(int[] tried) {
            for (int other = 0; other < known; other++) {
                if (isStance(other, tried)) {
                    return other;
                }
            }
            if (known >= STANCES) {
                return 0;
            }
            System.arraycopy(tried, 0, faceAt, known * sides, sides);
            known++;
            return known - 1;
        }

        private boolean isStance(int stance, int[] tried) {
            for (int position = 0; position < sides; position++) {
                if (faceAt[stance * sides + position] != tried[position]) {
                    return false;
                }
            }
            return true;
        }

        private void tellPositions() {
            for (int stance = 0; stance < STANCES; stance++) {
                for (int position = 0; position < sides; position++) {
                    positions[stance * sides + faceAt[stance * sides + position]] = position;
                }
            }
        }

        int turnedTo(int stance, int way) {
            return turned[stance * WAYS + way];
        }

        int faceBelow(int stance) {
            return faceAt[stance * sides + bottom];
        }

        int positionOf(int stance, int face) {
            return positions[stance * sides + face];
        }
    }

    /** What THE IMAGE holds: THE BOARD with PRINTS, THE SOLID, INK. A state is PLACE times 24 and the stance. */
    private static final class World {
        private static final int STANDING = 0;
        private static final int ACROSS = 1;
        private static final int ALONG = 2;

        private final Stances cubes;
        private final Stances tetras;
        final int[] tiles;
        final int[] prints;
        int rows;
        int columns;
        int kind;
        int state;
        int ink;

        World(Stances cubes, Stances tetras) {
            this.cubes = cubes;
            this.tetras = tetras;
            tiles = new int[MOST_TILES];
            prints = new int[MOST_TILES];
            Arrays.fill(prints, NO_PRINT);
            rows = 4;
            columns = 4;
            kind = CUBE;
            state = 0;
            ink = 1;
        }

        void copyFrom(World other) {
            System.arraycopy(other.tiles, 0, tiles, 0, MOST_TILES);
            System.arraycopy(other.prints, 0, prints, 0, MOST_TILES);
            rows = other.rows;
            columns = other.columns;
            kind = other.kind;
            state = other.state;
            ink = other.ink;
        }

        /** Reads letters that are known to be without FAULT. */
        void readBoard(Letters letters) {
            int count = 0;
            rows = 0;
            for (int i = 0; i < letters.size; i++) {
                int what = letters.tileAt(i);
                if (what < 0) {
                    rows++;
                } else if (count < MOST_TILES) {
                    tiles[count] = what;
                    count++;
                }
            }
            columns = rows > 0 ? count / rows : 0;
            clearPrints();
            if (mayBePlaced(kind, 0)) {
                setSolid(kind, 0);
            } else {
                state = NONE;
            }
        }

        int tileCount() {
            return rows * columns;
        }

        boolean hasTile(int tile) {
            return tile >= 0 && tile < tileCount();
        }

        boolean hasPlace(int kindOfPlace, int place) {
            return place >= 0 && place < (isTetra(kindOfPlace) ? 2 : 1) * tileCount();
        }

        boolean isNone() {
            return state < 0;
        }

        int placeNow() {
            return state / STANCES;
        }

        Stances stances() {
            return isTetra(kind) ? tetras : cubes;
        }

        boolean mayBePlaced(int newKind, int place) {
            int tile = isTetra(newKind) ? place / 2 : place;
            return bears(tile, newKind == HEAVY);
        }

        void setSolid(int newKind, int place) {
            kind = newKind;
            state = place * STANCES;
        }

        private boolean bears(int tile, boolean weighs) {
            return tiles[tile] != HOLE && !(weighs && tiles[tile] == CRACKED);
        }

        /** Whether a TILE of this sort under THE SOLID as it lies now would bar it. */
        boolean wouldBar(int what) {
            boolean weighs = kind == HEAVY || kind == LONG && !stands(state);
            return what == HOLE || weighs && what == CRACKED;
        }

        boolean isOn(int tile) {
            return !isNone() && (tilesUnder(state) >> tile & 1) == 1;
        }

        int countTiles(int what) {
            int found = 0;
            for (int tile = 0; tile < tileCount(); tile++) {
                if (tiles[tile] == what) {
                    found++;
                }
            }
            return found;
        }

        int countPrints() {
            int found = 0;
            for (int tile = 0; tile < tileCount(); tile++) {
                if (prints[tile] != NO_PRINT) {
                    found++;
                }
            }
            return found;
        }

        void clearPrints() {
            Arrays.fill(prints, NO_PRINT);
        }

        void printBelow() {
            long under = tilesUnder(state);
            for (int tile = 0; tile < MOST_TILES; tile++) {
                if ((under >> tile & 1) == 1) {
                    prints[tile] = faceBelow(state);
                }
            }
        }

        int faceBelow(int at) {
            Stances stances = isTetra(kind) ? tetras : cubes;
            return stances.faceBelow(at % STANCES);
        }

        int positionOf(int face) {
            return stances().positionOf(state % STANCES, face);
        }

        boolean stands(int at) {
            return lie(at % STANCES) == STANDING;
        }

        /** How a BLOCK lies: where its END 0 is tells it. What is no BLOCK stands always. */
        private int lie(int stance) {
            if (!isBlock(kind)) {
                return STANDING;
            }
            switch (cubes.positionOf(stance, 0)) {
                case 3:
                case 5:
                    return ACROSS;
                case 2:
                case 4:
                    return ALONG;
                default:
                    return STANDING;
            }
        }

        /** The TILES (bits) that THE SOLID lies on in a state. */
        long tilesUnder(int at) {
            int place = at / STANCES;
            if (isTetra(kind)) {
                return 1L << place / 2;
            }
            switch (lie(at % STANCES)) {
                case ACROSS:
                    return 3L << place;
                case ALONG:
                    return 1L << place | 1L << place + columns;
                default:
                    return 1L << place;
            }
        }

        boolean pointsUp(int cell) {
            int width = 2 * columns;
            int row = rowOf(cell, width);
            int k = cell - row * width;
            return (row + k) % 2 == 0;
        }

        private static int rowOf(int place, int width) {
            return width > 0 ? place / width : 0;
        }

        /** The state behind a ROLL, or NONE if it can't be done. */
        int rolled(int at, int way) {
            if (isTetra(kind)) {
                return rolledTetra(at, way);
            }
            int place = at / STANCES;
            int stance = cubes.turnedTo(at % STANCES, way);
            int row = rowOf(place, columns);
            int column = place - row * columns;
            int far = reach(lie(at % STANCES), way);
            if (way == UP || way == DOWN) {
                row += way == DOWN ? far : -far;
            } else {
                column += way == RIGHT ? far : -far;
            }
            return mayLie(row, column, lie(stance)) ? (row * columns + column) * STANCES + stance : NONE;
        }

        /** By how many TILES the PLACE moves: a BLOCK's is told by the upper or left one of its TILES. */
        private int reach(int lie, int way) {
            if (!isBlock(kind)) {
                return 1;
            }
            switch (way) {
                case RIGHT:
                    return lie == ACROSS ? 2 : 1;
                case DOWN:
                    return lie == ALONG ? 2 : 1;
                default:
                    return lie == STANDING ? 2 : 1;
            }
        }

        private boolean mayLie(int row, int column, int lie) {
            int lastRow = lie == ALONG ? row + 1 : row;
            int lastColumn = lie == ACROSS ? column + 1 : column;
            if (row < 0 || lastRow >= rows || column < 0 || lastColumn >= columns) {
                return false;
            }
            boolean weighs = kind == HEAVY || kind == LONG && lie != STANDING;
            return bears(row * columns + column, weighs) && bears(lastRow * columns + lastColumn, weighs);
        }

        private int rolledTetra(int at, int way) {
            int cell = at / STANCES;
            int width = 2 * columns;
            int row = rowOf(cell, width);
            int k = cell - row * width;
            boolean pointsUp = (row + k) % 2 == 0;
            if (way == UP && pointsUp || way == DOWN && !pointsUp) {
                return NONE;
            }
            row += way == DOWN ? 1 : way == UP ? -1 : 0;
            k += way == RIGHT ? 1 : way == LEFT ? -1 : 0;
            if (row < 0 || row >= rows || k < 0 || k >= width) {
                return NONE;
            }
            int tile = row * columns + k / 2;
            if (!bears(tile, false) || kind == SHY && prints[tile] != NO_PRINT) {
                return NONE;
            }
            return (row * width + k) * STANCES + tetras.turnedTo(at % STANCES, way);
        }

        /** Whether a state is at a PLACE with a face below, as SOONEST counts it. */
        boolean isAt(int at, int place, int face) {
            return at / STANCES == place && lie(at % STANCES) == STANDING
                && (face == ANY_FACE || faceBelow(at) == face);
        }
    }

    /** What can be come to in thought; its rows are made once and used by every search. */
    private static final class Search {
        private static final int EVERYWHERE = -1;

        final int[] steps;
        private final int[] cameFrom;
        private final int[] cameBy;
        private final int[] queue;
        private final int[] marks;
        private final int[] now;
        private final int[] then;
        int size;

        Search() {
            steps = new int[MOST_STATES];
            cameFrom = new int[MOST_STATES];
            cameBy = new int[MOST_STATES];
            queue = new int[MOST_STATES];
            marks = new int[MOST_STATES];
            now = new int[MOST_STATES];
            then = new int[MOST_STATES];
            size = 0;
        }

        void floodAll(World world) {
            floodTo(world, EVERYWHERE, ANY_FACE);
        }

        /**
         * The first goal that is come to, or NONE. States stand in the queue by their ROLLS, and among
         * as many by their first walks, since WAYS are tried in order: so the goal's walk is the first.
         */
        int floodTo(World world, int place, int face) {
            Arrays.fill(steps, NONE);
            size = 0;
            add(world.state, NONE, NONE, 0);
            for (int head = 0; head < size && head < MOST_STATES; head++) {
                int at = queue[head];
                if (world.isAt(at, place, face)) {
                    return at;
                }
                for (int way = 0; way < WAYS; way++) {
                    int next = world.rolled(at, way);
                    if (next >= 0 && steps[next] < 0) {
                        add(next, at, way, steps[at] + 1);
                    }
                }
            }
            return NONE;
        }

        private void add(int state, int from, int way, int far) {
            steps[state] = far;
            cameFrom[state] = from;
            cameBy[state] = way;
            queue[size] = state;
            size++;
        }

        /** The i-th WAY of the walk that the latest search found to a goal; i is below its ROLLS. */
        int wayToward(int goal, int i) {
            int at = goal;
            for (int back = steps[goal] - 1; back > i; back--) {
                at = cameFrom[at];
            }
            return cameBy[at];
        }

        int countPlaces() {
            Arrays.fill(marks, 0);
            int found = 0;
            for (int i = 0; i < size; i++) {
                int place = queue[i] / STANCES;
                found += 1 - marks[place];
                marks[place] = 1;
            }
            return found;
        }

        /** The queue's last is farthest, as states stand in it by their ROLLS. */
        int farthest() {
            return size > 0 ? steps[queue[size - 1]] : 0;
        }

        int facesAt(World world, int place) {
            int bits = 0;
            for (int i = 0; i < size; i++) {
                if (queue[i] / STANCES == place) {
                    bits |= 1 << world.faceBelow(queue[i]);
                }
            }
            return bits;
        }

        /** While each ROLL changes between even and odd fewest ROLLS, each walk does: one that doesn't is enough. */
        boolean hasEven(World world) {
            floodAll(world);
            for (int i = 0; i < size; i++) {
                for (int way = 0; way < WAYS; way++) {
                    int next = world.rolled(queue[i], way);
                    if (next >= 0 && (steps[queue[i]] + 1 - steps[next]) % 2 != 0) {
                        return true;
                    }
                }
            }
            return false;
        }

        /** The HOLE that FILL tells, or NONE. */
        int bestFilled(World world) {
            floodAll(world);
            int most = size;
            int best = NONE;
            for (int tile = 0; tile < world.tileCount(); tile++) {
                int states = world.tiles[tile] == HOLE ? statesFilled(world, tile) : 0;
                if (states > most) {
                    most = states;
                    best = tile;
                }
            }
            return best;
        }

        int statesFilled(World world, int hole) {
            world.tiles[hole] = FLOOR;
            floodTo(world, EVERYWHERE, ANY_FACE);
            world.tiles[hole] = HOLE;
            return size;
        }

        /** Only TILES under one soonest walk can be needed: without any other that walk still goes. */
        long tilesNeeded(World world, int place) {
            int goal = floodTo(world, place, ANY_FACE);
            if (goal < 0) {
                return 0;
            }
            int fewest = steps[goal];
            long tried = tilesToward(world, goal) & ~world.tilesUnder(world.state);
            long needed = 0;
            for (int tile = 0; tile < world.tileCount(); tile++) {
                if ((tried >> tile & 1) == 1 && isLaterWithout(world, tile, place, fewest)) {
                    needed |= 1L << tile;
                }
            }
            return needed;
        }

        private long tilesToward(World world, int goal) {
            long under = 0;
            int at = goal;
            for (int back = steps[goal]; back > 0; back--) {
                under |= world.tilesUnder(at);
                at = cameFrom[at];
            }
            return under;
        }

        private boolean isLaterWithout(World world, int tile, int place, int fewest) {
            int was = world.tiles[tile];
            world.tiles[tile] = HOLE;
            int goal = floodTo(world, place, ANY_FACE);
            world.tiles[tile] = was;
            return goal < 0 || steps[goal] > fewest;
        }

        /** A ROLL must print it, so states are looked at behind a ROLL: that of now too, come back to. */
        int rollsToPaint(World world, int tile, int face) {
            floodAll(world);
            for (int i = 0; i < size; i++) {
                for (int way = 0; way < WAYS; way++) {
                    int next = world.rolled(queue[i], way);
                    if (next >= 0 && world.faceBelow(next) == face && (world.tilesUnder(next) >> tile & 1) == 1) {
                        return steps[queue[i]] + 1;
                    }
                }
            }
            return NOTHING;
        }

        /** In how many of the 4 to the n-th sequences of WAYS the solid is at a PLACE in the end. */
        long walksEndingAt(World world, int n, int place) {
            Arrays.fill(now, 0);
            now[world.state] = 1;
            for (int i = 0; i < n; i++) {
                spread(world);
            }
            long ending = 0;
            for (int stance = 0; stance < STANCES; stance++) {
                ending += now[place * STANCES + stance];
            }
            return ending;
        }

        private void spread(World world) {
            Arrays.fill(then, 0);
            for (int at = 0; at < MOST_STATES; at++) {
                for (int way = 0; way < WAYS && now[at] > 0; way++) {
                    int next = world.rolled(at, way);
                    then[next >= 0 ? next : at] += now[at];
                }
            }
            System.arraycopy(then, 0, now, 0, MOST_STATES);
        }
    }

    /** The latest ROLLS in a ring: what was ahead of each. */
    private static final class History {
        private final int[] states;
        private final int[] prints;
        private int next;
        int size;

        History() {
            states = new int[MOST_UNDONE];
            prints = new int[MOST_UNDONE * MOST_TILES];
            next = 0;
            size = 0;
        }

        void forget() {
            size = 0;
        }

        void keep(World world) {
            states[next] = world.state;
            System.arraycopy(world.prints, 0, prints, next * MOST_TILES, MOST_TILES);
            next = (next + 1) % MOST_UNDONE;
            size = Math.min(size + 1, MOST_UNDONE);
        }

        void bringBack(World world) {
            next = (next + MOST_UNDONE - 1) % MOST_UNDONE;
            world.state = states[next];
            System.arraycopy(prints, next * MOST_TILES, world.prints, 0, MOST_TILES);
            size--;
        }
    }

    /** The letters that have come. */
    private static final class Letters {
        private final int[] signs;
        int size;

        Letters() {
            signs = new int[MOST_LETTERS];
            size = 0;
        }

        boolean isFull() {
            return size >= MOST_LETTERS;
        }

        void append(int sign) {
            signs[size] = sign;
            size++;
        }

        void clear() {
            size = 0;
        }

        /** What TILE a letter tells, or NONE. */
        int tileAt(int i) {
            switch (signs[i]) {
                case '.':
                    return FLOOR;
                case '#':
                    return HOLE;
                case '~':
                    return CRACKED;
                default:
                    return NONE;
            }
        }

        /** What WAY a letter tells, or NONE. */
        int wayAt(int i) {
            switch (signs[i]) {
                case 'u':
                    return UP;
                case 'r':
                    return RIGHT;
                case 'd':
                    return DOWN;
                case 'l':
                    return LEFT;
                default:
                    return NONE;
            }
        }

        /** The place of the FAULT of the letters as a BOARD, or NONE. */
        int boardFault() {
            int row = 0;
            int column = 0;
            int width = MOST_COLUMNS;
            for (int i = 0; i < size; i++) {
                boolean ends = signs[i] == ';' && column > 0 && (row == 0 || column == width);
                boolean goesOn = tileAt(i) >= 0 && column < width;
                if (row == MOST_ROWS || !ends && !goesOn) {
                    return i;
                }
                if (ends) {
                    width = column;
                    row++;
                }
                column = ends ? 0 : column + 1;
            }
            return row == 0 || column > 0 ? size : NONE;
        }
    }

    /** A LIST. */
    private static final class Row {
        final int[] values;
        int size;

        Row() {
            values = new int[LIST_ROOM];
            size = NONE;
        }

        boolean isMissing() {
            return size < 0;
        }

        void begin(int n) {
            Arrays.fill(values, 0);
            size = n;
        }

        int lackAt(int i) {
            return lackOf(size, i);
        }
    }

    /** A RACK: of the SOLIDS in it only the KIND and the face below can ever be asked. */
    private static final class Rack {
        private static final int EMPTY = -1;

        final int[] kinds;
        final int[] below;
        int madeFor;
        int size;

        Rack() {
            kinds = new int[RACK_ROOM];
            below = new int[RACK_ROOM];
            madeFor = CUBE;
            size = NONE;
        }

        boolean isMissing() {
            return size < 0;
        }

        void begin(int kind, int n) {
            Arrays.fill(kinds, EMPTY);
            madeFor = kind;
            size = n;
        }

        int lackAt(int i) {
            return lackOf(size, i);
        }

        void store(int i, int kind, int face) {
            kinds[i] = kind;
            below[i] = face;
        }

        void empty(int i) {
            kinds[i] = EMPTY;
        }

        boolean isEmptyAt(int i) {
            return kinds[i] == EMPTY;
        }

        void copyFrom(Rack other) {
            System.arraycopy(other.kinds, 0, kinds, 0, RACK_ROOM);
            System.arraycopy(other.below, 0, below, 0, RACK_ROOM);
            madeFor = other.madeFor;
            size = other.size;
        }
    }
}
