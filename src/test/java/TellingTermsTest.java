import java.util.HashSet;
import java.util.Set;

/** Terms, 3, and what stands behind it: each sentence that names a boundary of what is told, kept, undone. */
final class TellingTermsTest extends Calls {
    public static void main(String[] args) {
        begin("TellingTermsTest");
        lettersAtMost();
        faults();
        faultsOfAllShortTexts();
        faultsOfAllBoardsSpoilt();
        faultLeavesAll();
        boardWithoutFault();
        solidOfANewBoard();
        walkLetters();
        judgedAndWalked();
        walkedUpTo();
        listsOfForty();
        printsLaid();
        printsTold();
        racksMadeFor();
        racksAsWhenLaid();
        twentyUndone();
        whatLeavesNoneUndone();
        whatIsUndoneComesBack();
        imageHolds();
        refusalsInLongs();
        neverCounted();
        usedFor512Calls();
        end();
    }

    private static String floor(int rows, int columns) {
        return (".".repeat(columns) + ";").repeat(rows);
    }

    // ---- boards told in letters

    private static void lettersAtMost() {
        about("A BOARD is told in letters (72 at most)");
        SolidsRolled x = new SolidsRolled();
        for (int i = 1; i <= 72; i++) {
            is("letter " + i, x.letter(i == 72 ? 'x' : '.'), i);
        }
        is("a 73rd", x.letter('.'), -6);
        is("a 74th", x.letter(0), -6);
        is("letters", x.count(6), 72);
        is("the seventh sign", x.board(), -1006);
        is("none are left", x.count(6), 0);
        is("room again", x.letter('.'), 1);
        x.letter(';');
        is("a board of these two", x.board(), 1);
        tell(x, "rl".repeat(36));
        is("no room", x.letter('u'), -6);
        is("no roll on one tile", x.walks(), 0);
        is("room again", x.letter('.'), 1);
        x = new SolidsRolled();
        tell(x, LARGEST + ".".repeat(30));
        is("full", x.count(6), 72);
        is("the seventh row's first letter", x.board(), -1042);
        x = new SolidsRolled();
        tell(x, LARGEST + ";");
        is("of the seventh row too", x.board(), -1042);
    }

    private static void faultOf(String letters, int place) {
        SolidsRolled x = new SolidsRolled();
        is("fault of " + letters, told(x, letters), -1000 - place);
        is("letters of " + letters, x.count(6), 0);
        refusals(x, 0, 0, 0, 0, 0, 0);
    }

    private static void faults() {
        about("FAULT: .. a seventh row's first letter");
        for (int columns = 1; columns <= 6; columns++) {
            is("six rows", told(new SolidsRolled(), floor(6, columns)), 6 * columns);
            for (String seventh : new String[] {".", "#", "~", ";", "x", ".;"}) {
                faultOf(floor(6, columns) + seventh, 6 * (columns + 1));
            }
        }
        about("FAULT: .. a seventh sign");
        is("six signs", told(new SolidsRolled(), ".#~.#~;"), 6);
        for (String seventh : new String[] {".", "#", "~", "x", ".;", "..;"}) {
            faultOf("......" + seventh, 6);
            faultOf("......;......" + seventh, 13);
        }
        about("FAULT: .. a row that ends too early or goes on too long");
        faultOf(";", 0);
        faultOf(";;", 0);
        faultOf(".;;", 2);
        faultOf("..;;", 3);
        faultOf("..;.;", 4);
        faultOf("...;..;", 6);
        faultOf("......;.....;", 12);
        faultOf(".;..;", 3);
        faultOf("..;...;", 5);
        faultOf("..;..;...", 8);
        faultOf(".....;......;", 11);
        about("FAULT: .. the number of letters, if something lacks");
        faultOf("", 0);
        faultOf(".", 1);
        faultOf("......", 6);
        faultOf(".;.", 3);
        faultOf("..;.", 4);
        faultOf("..;..", 5);
        faultOf("......;......", 13);
        faultOf(LARGEST.substring(0, 41), 41);
        about("rows of signs: \".\" FLOOR, \"#\" a HOLE, \"~\" CRACKED");
        SolidsRolled x = new SolidsRolled();
        is("all signs", told(x, ".#~;"), 3);
        for (int what = 0; what <= 2; what++) {
            is("sign " + what, x.of(what, 0), what);
        }
        for (int c = 0; c <= 255; c++) {
            boolean sign = c == '.' || c == '#' || c == '~';
            x = new SolidsRolled();
            x.letter('.');
            x.letter(c);
            x.letter(';');
            is("letter " + c, x.board(), sign ? 2 : c == ';' ? -1002 : -1001);
        }
    }

    /** What a board's letters can be, each sign told by "."; there are only 36 such texts. */
    private static Set<String> boards() {
        Set<String> boards = new HashSet<>();
        for (int rows = 1; rows <= 6; rows++) {
            for (int columns = 1; columns <= 6; columns++) {
                boards.add(floor(rows, columns));
            }
        }
        return boards;
    }

    private static final Set<String> BOARDS = boards();
    private static final Set<String> BEGUN = begun();

    private static Set<String> begun() {
        Set<String> begun = new HashSet<>();
        for (String board : BOARDS) {
            for (int n = 0; n <= board.length(); n++) {
                begun.add(board.substring(0, n));
            }
        }
        return begun;
    }

    /** The first letter with which no board goes on; the number of letters, if something lacks; -1. */
    private static int faultBySaying(String letters) {
        String plain = letters.replace('#', '.').replace('~', '.');
        for (int n = 1; n <= plain.length(); n++) {
            if (!BEGUN.contains(plain.substring(0, n))) {
                return n - 1;
            }
        }
        return BOARDS.contains(plain) ? -1 : plain.length();
    }

    private static void isBoard(String letters) {
        int fault = faultBySaying(letters);
        int tiles = letters.replace(";", "").length();
        is("board of " + letters, told(new SolidsRolled(), letters), fault < 0 ? tiles : -1000 - fault);
    }

    private static void faultsOfAllShortTexts() {
        about("FAULT: the place (from 0) of the first letter with which no such BOARD goes on");
        for (int length = 0; length <= 8; length++) {
            for (int number = 0; number < Math.pow(3, length); number++) {
                StringBuilder letters = new StringBuilder();
                int left = number;
                for (int i = 0; i < length; i++) {
                    letters.append(".;x".charAt(left % 3));
                    left /= 3;
                }
                isBoard(letters.toString());
            }
        }
    }

    private static void faultsOfAllBoardsSpoilt() {
        for (String board : BOARDS) {
            for (int n = 0; n < board.length(); n++) {
                isBoard(board.substring(0, n));
                isBoard(board.substring(0, n) + board.substring(n + 1));
                for (String other : new String[] {".", "~", ";", " "}) {
                    isBoard(board.substring(0, n) + other + board.substring(n));
                    isBoard(board.substring(0, n) + other + board.substring(n + 1));
                }
            }
            isBoard(board + board);
        }
    }

    private static void faultLeavesAll() {
        about("The letters become a BOARD, and are none behind it, also by a FAULT; the FAULT (not counted)");
        SolidsRolled x = with(".#~;...;", BLOCK, 3);
        x.roll(RIGHT);
        x.image();
        is("fault", told(x, "..;.;"), -1004);
        is("letters", x.count(6), 0);
        is("rows", x.count(0), 2);
        is("columns", x.count(1), 3);
        is("holes", x.count(2), 1);
        is("cracked", x.count(3), 1);
        is("place", x.solid(1), 4);
        is("lies", x.solid(3), 2);
        prints(x, -9, -9, -9, -9, 3, 3);
        is("undone", x.count(7), 1);
        refusals(x, 0, 0, 0, 0, 0, 0);
        is("undo", x.undo(), 0);
        x = none(TETRA);
        is("fault with none", told(x, "x"), -1000);
        is("none still", x.solid(1), -3);
        is("its board", x.of(0, 0), HOLE);
    }

    private static void boardWithoutFault() {
        about("Without FAULT: it is THE BOARD, without PRINTS .. (INK stays)");
        for (int ink = 0; ink <= 1; ink++) {
            SolidsRolled x = with("...;...;", CUBE, 0);
            rolls(x, "rrdll");
            is("prints", x.count(4), 5);
            x.ink(ink);
            is("as many tiles", told(x, "..;..;..;"), 6);
            is("no prints", x.count(4), 0);
            is("rows", x.count(0), 3);
            is("columns", x.count(1), 2);
            is("ink", x.count(5), ink);
            is("none undone", x.undo(), -3);
            told(x, ".;");
            told(x, LARGEST);
            is("no prints on what was not there", x.count(4), 0);
            is("no holes", x.count(2) + x.count(3), 0);
        }
        SolidsRolled x = with("######;#####.;", CUBE, 11);
        told(x, "...;");
        told(x, "...;");
        is("holes", x.count(2), 0);
        is("cracked", told(x, "~~~;~~~;") * 10 + x.count(3), 66);
    }

    private static void solidOfANewBoard() {
        about("THE SOLID becomes of the same KIND, placed at PLACE 0, if it MAY lie there; else there is NONE");
        for (int kind = 0; kind < 6; kind++) {
            SolidsRolled x = with("...;...;...;", kind, 0);
            x.roll(x.ways() == 0 ? RIGHT : Integer.numberOfTrailingZeros(x.ways()));
            told(x, ".;");
            is("kind", x.solid(0), kind);
            is("place", x.solid(1), 0);
            facesAt(x, kind >= TETRA ? new int[] {0, 1, 2, 3} : new int[] {0, 1, 2, 3, 4, 5});
            told(x, "~#;");
            is(kind + " on cracked", x.solid(1), kind == HEAVY ? -3 : 0);
            told(x, "#.;");
            is(kind + " on a hole", x.solid(1), -3);
            is("kind of none", x.count(8), kind);
            about("(of the latest, if there is NONE)");
            told(x, "#;");
            is("none again", x.solid(0), -3);
            told(x, ".#;");
            is("the latest kind", x.solid(0), kind);
            is("its place", x.solid(1), 0);
            x.places(kind, 0);
            is("placed anew", x.solid(0), kind);
        }
        SolidsRolled x = none(SHY);
        x.places(HEAVY, 1);
        told(x, "#;");
        told(x, "..;");
        is("the latest of several", x.solid(0), HEAVY);
    }

    // ---- walks told in letters

    private static void walkLetters() {
        about("A WALK is told in letters: u, r, d, l, none too");
        for (int c = 0; c <= 255; c++) {
            int way = "urdl".indexOf(c);
            int[] places = {1, 5, 7, 3};
            SolidsRolled x = with("...;...;...;", CUBE, 4);
            x.letter(c);
            is("judged " + c, x.judge(), way >= 0 ? -9 : 0);
            is("letters stay", x.count(6), 1);
            is("walked " + c, x.walks(), way >= 0 ? 1 : 0);
            is("letters are none", x.count(6), 0);
            is("place", x.solid(1), way >= 0 ? places[way] : 4);
        }
        SolidsRolled x = new SolidsRolled();
        is("judged without letters", x.judge(), -9);
        is("walked without letters", x.walks(), 0);
        refusals(x, 0, 0, 0, 0, 0, 0);
    }

    private static void judgedAndWalked() {
        about("the first letter (from 0) that is none of these, or whose ROLL can't be done; -9");
        String[] walks = {"rrr", "rrrr", "rrx", "xrr", "u", "ru", "l", "rl", "rll", "ddd", "dddd", "rdlurdlu", "R",
            "rrrddd", "rrrdddr", "rrrdddllluuul", "r r", "rrrl;"};
        int[] faults = {-9, 3, 2, 0, 0, 1, 0, -9, 2, -9, 3, -9, 0, -9, 6, 12, 1, 4};
        for (int i = 0; i < walks.length; i++) {
            SolidsRolled x = new SolidsRolled();
            tell(x, walks[i]);
            is("judged " + walks[i], x.judge(), faults[i]);
            is("letters", x.count(6), walks[i].length());
            is("nothing undone", x.count(7), 0);
            is("walked " + walks[i], x.walks(), faults[i] < 0 ? walks[i].length() : faults[i]);
            is("letters", x.count(6), 0);
            is("undone", x.count(7), Math.min(20, faults[i] < 0 ? walks[i].length() : faults[i]));
            refusals(x, 0, 0, 0, 0, 0, 0);
        }
        SolidsRolled x = new SolidsRolled();
        x.tile(2, HOLE);
        tell(x, "rr");
        is("onto a hole", x.judge(), 1);
        x.tile(2, CRACKED);
        is("onto cracked", x.judge(), -9);
        x.places(HEAVY, 0);
        is("a heavy onto cracked", x.judge(), 1);
        x.places(CUBE, 15);
        is("from now on", x.judge(), 0);
    }

    private static void walkedUpTo() {
        about("WALKED: its ROLLS are done, truly, up to the first letter ..");
        SolidsRolled x = new SolidsRolled();
        tell(x, "rl".repeat(36));
        is("72 letters judged", x.judge(), -9);
        is("72 rolls", x.walks(), 72);
        is("twenty can be undone", x.count(7), 20);
        is("place", x.solid(1), 0);
        prints(x, 1, 3, -9);
        x = new SolidsRolled();
        tell(x, "rl".repeat(35) + "ru");
        is("up to the last", x.walks(), 71);
        is("place", x.solid(1), 1);
        x = new SolidsRolled();
        x.ink(0);
        tell(x, "rrdxrr");
        is("three", x.walks(), 3);
        is("without ink", x.count(4), 0);
        is("place", x.solid(1), 6);
        is("undone", x.undo(), 2);
        x = with("..;..;", SHY, 0);
        tell(x, "rldr");
        is("judged by prints as they are", x.judge(), -9);
        is("walked by its own prints, too", x.walks(), 1);
    }

    // ---- lists, racks

    private static void listsOfForty() {
        about("LISTS 0 .. 2 are rows of ints (40 at most), missing at first");
        SolidsRolled x = new SolidsRolled();
        for (int list = 0; list <= 2; list++) {
            is("missing", x.look(list, 0), MISSING);
            is("missing", x.put(list, 0, 1), -11);
            is("missing", x.lays(list, 0), -11);
            is("missing", x.tells(list), -11);
            is("forty", x.list(list, 40), 1);
            is("the last is 0", x.look(list, 39), 0);
            is("the greatest int", x.put(list, 39, MAX), 1);
            is("it is", x.look(list, 39), MAX);
            is("the least int", x.put(list, 39, MIN), 1);
            is("it is", x.look(list, 39), MIN);
            is("no forty-first", x.put(list, 40, 1), -13);
            is("too many", x.list(list, 41), -6);
            is("it stays", x.look(list, 39), MIN);
            is("too few", x.list(list, -1), -14);
            is("it stays", x.look(list, 39), MIN);
            is("none", x.list(list, 0), 1);
            is("no first", x.look(list, 0), NO_PLACE);
            is("anew", x.list(list, 40), 1);
            is("all 0", x.look(list, 39), 0);
            is("one", x.list(list, 1), 1);
            is("no second", x.look(list, 1), NO_PLACE);
            x.put(list, 0, list + 5);
        }
        for (int list = 0; list <= 2; list++) {
            is("each is its own", x.look(list, 0), list + 5);
        }
        is("no fourth", x.list(3, 1), -1);
        is("none before", x.list(-1, 1), -1);
    }

    private static void printsLaid() {
        about("PRINTS LAID into a LIST: of TILES 0, 1, .. (-1: none), from a place on");
        for (String board : new String[] {".;", "...;", "..;..;..;", "...;...;...;...;", LARGEST}) {
            for (int size = 0; size <= 40; size += 4) {
                for (int i = -1; i <= size + 1; i++) {
                    printsLaid(board, size, i);
                }
            }
            for (int i : new int[] {MIN, MIN + 1, MAX - 40, MAX - 1, MAX}) {
                printsLaid(board, 40, i);
            }
        }
        printsLaid(LARGEST, 35, 0);
        printsLaid(LARGEST, 37, 1);
        printsLaid(LARGEST, 37, 2);
    }

    private static void printsLaid(String board, int size, int i) {
        SolidsRolled x = new SolidsRolled();
        int count = told(x, board);
        x.list(1, size);
        tell(x, "rr");
        x.walks();
        boolean fits = i >= 0 && (long) i + count <= size;
        is(count + " laid into " + size + " from " + i, x.lays(1, i), fits ? count : -13);
        for (int at = 0; at < size; at++) {
            long tile = (long) at - i;
            boolean laid = i >= 0 && tile >= 0 && tile < count;
            is(at + " of it", x.look(1, at), laid ? Math.max(-1, x.of((int) tile, 1)) : 0);
        }
        refusals(x, 0, 0, 0, 0, 0, 0);
    }

    private static void printsTold() {
        about("TOLD PRINTS: .. the first that is otherwise (a TILE that isn't there, too); -9");
        SolidsRolled x = with(LARGEST, CUBE, 0);
        rolls(x, "rrrrrddddd");
        for (int size = 0; size <= 36; size++) {
            x.list(0, size);
            x.lays(0, 0);
            is("a list of " + size, x.tells(0), -9);
        }
        for (int size = 37; size <= 40; size++) {
            for (int more : new int[] {-1, 0}) {
                x.list(0, size);
                x.lays(0, 0);
                x.put(0, 36, more);
                is("one that tells more", x.tells(0), 36);
            }
        }
        x = with("..;..;", CUBE, 0);
        rolls(x, "rdl");
        x.list(2, 4);
        for (int tile = 3; tile >= 0; tile--) {
            x.lays(2, 0);
            x.put(2, tile, x.look(2, tile) == -1 ? 0 : -1);
            is("otherwise at " + tile, x.tells(2), tile);
            x.put(2, 3, 9);
            is("the first", x.tells(2), tile);
        }
        x.wipes();
        for (int tile = 0; tile < 4; tile++) {
            x.put(2, tile, -1);
        }
        is("none told by -1", x.tells(2), -9);
        x.put(2, 1, -9);
        is("not by -9", x.tells(2), 1);
        x.put(2, 1, 0);
        is("nor by 0", x.tells(2), 1);
    }

    private static void racksMadeFor() {
        about("RACKS 0 .. 2 are rows for SOLIDS, each made for a KIND and those under it; missing at first");
        for (int rack = 0; rack <= 2; rack++) {
            SolidsRolled x = new SolidsRolled();
            is("missing", x.racks(rack, 0, 1), -11);
            is("missing", x.racked(rack, 0, 0), -11);
            is("missing", x.like((rack + 1) % 3, rack), -11);
            is("missing", x.like(rack, rack), -11);
            is("nine", x.rack(rack, CUBE, 9), 1);
            is("the last is empty", x.racked(rack, 8, 0), -9);
            is("the last", x.racks(rack, 8, 1), 1);
            is("it lies there", x.racked(rack, 8, 1), 1);
            is("no tenth", x.racks(rack, 9, 1), -13);
            is("too many", x.rack(rack, BLOCK, 10), -6);
            is("too few", x.rack(rack, BLOCK, -1), -14);
            is("it stays", x.racked(rack, 8, 0), CUBE);
            is("none", x.rack(rack, CUBE, 0), 1);
            is("no first", x.racks(rack, 0, 1), -13);
            is("anew", x.rack(rack, CUBE, 9), 1);
            is("empty", x.racked(rack, 8, 0), -9);
        }
        int[] over = {CUBE, CUBE, BLOCK, BLOCK, TETRA, TETRA};
        for (int made = 0; made < 6; made++) {
            for (int kind = 0; kind < 6; kind++) {
                SolidsRolled x = with("..;", kind, 0);
                x.rack(1, made, 1);
                boolean fits = kind == made || over[kind] == made;
                is(kind + " into a rack for " + made, x.racks(1, 0, 1), fits ? 1 : -16);
                is("lies there", x.racked(1, 0, 0), fits ? kind : -9);
                is("nothing into it", x.racks(1, 0, 0), 1);
                is("empty", x.racked(1, 0, 0), -9);
                refusals(x, 0, 0, 0, 0, 0, 0);
            }
        }
        SolidsRolled x = new SolidsRolled();
        is("no fourth", x.rack(3, CUBE, 1), -1);
        is("none before", x.rack(-1, CUBE, 1), -1);
    }

    private static void racksAsWhenLaid() {
        about("(KIND and faces as they were when laid); A RACK becomes a row like another one, as that is now");
        SolidsRolled x = new SolidsRolled();
        x.rack(0, CUBE, 2);
        x.roll(RIGHT);
        x.racks(0, 0, 1);
        x.roll(RIGHT);
        x.racks(0, 1, 1);
        x.image();
        told(x, "#;");
        is("kind", x.racked(0, 0, 0), CUBE);
        is("face", x.racked(0, 0, 1), 3);
        is("face of the other", x.racked(0, 1, 1), 0);
        is("like", x.like(1, 0), 2);
        x.rack(0, BLOCK, 0);
        is("as it was then", x.racked(1, 0, 1), 3);
        x.on();
        is("racks stay", x.racked(0, 0, 0), -13);
        is("made for the same", x.racks(1, 0, 1), 1);
        x.places(TETRA, 0);
        is("and for no other", x.racks(1, 0, 1), -16);
        is("like one of none", x.like(1, 0), 0);
        is("no place in it", x.racked(1, 0, 0), -13);
    }

    // ---- undone, the image

    private static void twentyUndone() {
        about("ROLLS that were done truly can be UNDONE (the latest first, 20 at most");
        for (int done = 0; done <= 45; done++) {
            SolidsRolled x = new SolidsRolled();
            for (int i = 0; i < done; i++) {
                x.roll(i % 2 == 0 ? RIGHT : LEFT);
            }
            int can = Math.min(done, 20);
            is("can be undone behind " + done, x.count(7), can);
            for (int left = can - 1; left >= 0; left--) {
                is("undone", x.undo(), left);
                is("place", x.solid(1), (done - (can - left)) % 2);
                is("still", x.count(7), left);
            }
            is("no more", x.undo(), -3);
            is("place", x.solid(1), (done - can) % 2);
            refusals(x, 0, 0, 1, 0, 0, 0);
        }
        SolidsRolled x = new SolidsRolled();
        for (int i = 0; i < 30; i++) {
            x.roll(i % 2 == 0 ? DOWN : UP);
        }
        for (int i = 0; i < 7; i++) {
            x.undo();
        }
        is("thirteen left", x.count(7), 13);
        rolls(x, "rlrlrlrlrl");
        is("twenty again", x.count(7), 20);
        is("a refused roll", x.roll(LEFT), -3);
        is("is none of them", x.count(7), 20);
    }

    private static void whatLeavesNoneUndone() {
        about("placing, a new BOARD, ON leave none; tile(), ink(), wipes() leave them");
        SolidsRolled x = new SolidsRolled();
        x.image();
        rolls(x, "rr");
        x.tile(1, HOLE);
        x.tile(2, CRACKED);
        x.ink(0);
        x.wipes();
        x.image();
        x.letter('.');
        x.board();
        x.places(CUBE, 1);
        x.places(6, 0);
        x.places(CUBE, 16);
        x.roll(LEFT);
        x.roll(UP);
        x.walks();
        is("they are left", x.count(7), 2);
        x.places(CUBE, 2);
        is("placing leaves none", x.count(7), 0);
        is("none", x.undo(), -3);
        x.roll(RIGHT);
        is("one", x.count(7), 1);
        told(x, LARGEST);
        is("a new board leaves none", x.count(7), 0);
        is("none", x.undo(), -3);
        x.roll(RIGHT);
        is("one", x.count(7), 1);
        x.on();
        is("on leaves none", x.count(7), 0);
        is("none", x.undo(), -3);
        told(x, "..;");
        x.roll(RIGHT);
        told(x, "#;");
        is("none of none", x.count(7), 0);
        is("none", x.undo(), -3);
    }

    private static void whatIsUndoneComesBack() {
        about("PLACE, faces, all PRINTS are as ahead of it; .. comes back as it was, whatever TILES are by then");
        SolidsRolled x = with("...;...;", CUBE, 0);
        rolls(x, "rd");
        x.places(CUBE, 4);
        x.roll(LEFT);
        prints(x, -9, 3, -9, 5, 4, -9);
        x.wipes();
        x.tile(4, HOLE);
        x.tile(1, HOLE);
        is("undone", x.undo(), 0);
        is("onto the hole", x.solid(1), 4);
        prints(x, -9, 3, -9, -9, 4, -9);
        facesAt(x, 0, 1, 2, 3, 4, 5);
        is("a hole still", x.of(4, 0), HOLE);
        is("off it", x.roll(RIGHT), 3);
        is("not back by a roll", x.roll(LEFT), -3);
        is("but undone", x.undo(), 0);
        x = with("...;", LONG, 0);
        x.ink(0);
        x.roll(RIGHT);
        x.ink(1);
        x.tile(0, CRACKED);
        is("undone without a print", x.undo(), 0);
        is("stands on cracked", x.solid(1), 0);
        is("ink is as it was now", x.count(5), 1);
        x = with("....;", LONG, 0);
        rolls(x, "rr");
        x.tile(1, CRACKED);
        x.tile(2, CRACKED);
        is("undone", x.undo(), 1);
        is("lies on cracked", x.solid(3), 2);
        is("a roll onto it", x.undo(), 0);
        is("isn't done", x.roll(RIGHT), -3);
        x = with("..;", SHY, 0);
        rolls(x, "rr");
        is("prints", x.count(4), 2);
        x.undo();
        is("its prints are undone", x.count(4), 1);
        x.undo();
        is("and gone", x.count(4), 0);
        facesAt(x, 0, 1, 2, 3);
    }

    private static void imageHolds() {
        about("THE IMAGE: THE BOARD with PRINTS, THE SOLID, INK; ON .. as then (letters, LISTS, RACKS stay)");
        SolidsRolled x = new SolidsRolled();
        is("none at first", x.on(), -3);
        told(x, ".#~;...;");
        rolls(x, "dr");
        x.ink(0);
        is("taken", x.image(), 4);
        told(x, LARGEST);
        x.ink(1);
        x.places(BLOCK, 0);
        rolls(x, "rdd");
        x.letter('r');
        x.list(0, 1);
        x.rack(0, BLOCK, 1);
        x.racks(0, 0, 1);
        for (int again = 0; again < 2; again++) {
            is("on", x.on(), 4);
            int[] want = {2, 3, 1, 1, 2, 0, 1, 0, CUBE};
            for (int what = 0; what < want.length; what++) {
                is("count " + what, x.count(what), want[what]);
            }
            prints(x, -9, -9, -9, 4, 3, -9);
            is("no tile beyond", x.of(6, 0), -1);
            facesAt(x, 5, 3, 1, 2, 0, 4);
            is("list", x.look(0, 0), 0);
            is("rack", x.racked(0, 0, 0), BLOCK);
            is("walked", x.walks(), 1);
            x.wipes();
            x.tile(0, HOLE);
            x.letter('r');
        }
        about("PLACE (-9 NONE)");
        x = none(LONG);
        is("of none", x.image(), -9);
        told(x, "..;");
        x.places(CUBE, 1);
        is("the later one", x.image(), 1);
        is("on from the later", x.on(), 1);
        x = none(LONG);
        x.image();
        x.places(CUBE, 1);
        is("on to none", x.on(), -9);
        is("none", x.ways(), -3);
        is("a hole", x.of(0, 0), HOLE);
    }

    // ---- refusals, calls

    private static void refusalsInLongs() {
        about("Of longs 4000000000000000000 less them (-1 as 4000000000000000001)");
        SolidsRolled x = new SolidsRolled();
        is("needed", x.needed(16), 4000000000000000001L);
        is("likely -1", x.likely(0, 16, 0), 4000000000000000001L);
        is("likely -2", x.likely(0, 0, 2), 4000000000000000002L);
        is("likely -4", x.likely(-1, 0, 0), 4000000000000000004L);
        is("likely -6", x.likely(13, 0, 0), 4000000000000000006L);
        is("look -1", x.look(3, 0), 4000000000000000001L);
        is("look -11", x.look(0, 0), 4000000000000000011L);
        x.list(0, 1);
        is("look -13", x.look(0, 1), 4000000000000000013L);
        x.put(0, 0, -1);
        is("no refusal", x.look(0, 0), -1);
        refusals(x, 3, 1, 0, 1, 0, 1);
        told(x, "#;");
        is("needed -3", x.needed(0), 4000000000000000003L);
        is("likely -3", x.likely(0, 0, 0), 4000000000000000003L);
        refusals(x, 3, 1, 2, 1, 0, 1);
        is("-5", x.count(15), 0);
    }

    private static void neverCounted() {
        about("Not counted: of LISTS and RACKS -11 .., -13 .., -14 .., -16 ..");
        SolidsRolled x = new SolidsRolled();
        x.put(0, 0, 0);
        x.look(0, 0);
        x.lays(0, 0);
        x.tells(0);
        x.racks(0, 0, 1);
        x.racked(0, 0, 0);
        x.like(0, 1);
        x.list(0, -1);
        x.rack(0, 0, -1);
        refusals(x, 0, 0, 0, 0, 0, 0);
        x.list(0, 1);
        x.rack(0, BLOCK, 1);
        x.put(0, 1, 0);
        x.look(0, -1);
        x.lays(0, 0);
        x.racks(0, 1, 1);
        x.racked(0, -1, 0);
        x.racks(0, 0, 1);
        refusals(x, 0, 0, 0, 0, 0, 0);
        x.racked(0, 0, 0);
        x.of(0, 1);
        x.soonest(0, 0);
        x.walk(0, -1, 0);
        x.fill(0);
        x.fill(1);
        x.paint(0, 0);
        x.judge();
        x.count(99);
        x.board();
        refusals(x, 0, 0, 0, 0, 0, 0);
        told(x, "#;");
        x.image();
        x.on();
        refusals(x, 0, 0, 0, 0, 0, 0);
    }

    private static void usedFor512Calls() {
        about("An object is used for at most 512 calls after it has been made");
        SolidsRolled x = new SolidsRolled();
        for (int i = 0; i < 511; i++) {
            x.ink(2);
        }
        is("the 512th call", x.count(12), 511);
        x = new SolidsRolled();
        for (int i = 0; i < 510; i++) {
            x.roll(i % 2 == 0 ? RIGHT : LEFT);
        }
        is("the 511th call", x.undo(), 19);
        is("the 512th call", x.solid(1), 1);
        x = new SolidsRolled();
        for (int i = 0; i < 128; i++) {
            tell(x, i % 2 == 0 ? ".;" : "..");
            is("board " + i, x.board(), i % 2 == 0 ? 1 : -1002);
            x.list(i % 3, i % 41);
        }
        x = new SolidsRolled();
        told(x, LARGEST);
        for (int i = 43; i < 512; i++) {
            int place = i % 36;
            is("all can be come to", x.soonest(place, -1), place / 6 + place % 6);
        }
    }
}
