/** What the tests that are written by hand share: objects made ready, letters told, answers compared. */
abstract class Calls {
    static final long NOBODY = 4000000000000000001L;
    static final long OTHER = 4000000000000000002L;
    static final long STATE = 4000000000000000003L;
    static final long BELOW = 4000000000000000004L;
    static final long ROOM = 4000000000000000006L;
    static final long MISSING = 4000000000000000011L;
    static final long NO_PLACE = 4000000000000000013L;
    static final int MIN = Integer.MIN_VALUE;
    static final int MAX = Integer.MAX_VALUE;
    static final int CUBE = 0;
    static final int HEAVY = 1;
    static final int BLOCK = 2;
    static final int LONG = 3;
    static final int TETRA = 4;
    static final int SHY = 5;
    static final int UP = 0;
    static final int RIGHT = 1;
    static final int DOWN = 2;
    static final int LEFT = 3;
    static final int FLOOR = 0;
    static final int HOLE = 1;
    static final int CRACKED = 2;
    static final String LARGEST = "......;......;......;......;......;......;";

    /** Each test runs in a machine of its own, so one counter is enough. */
    private static Due due = new Due("");

    static void begin(String test) {
        due = new Due(test);
    }

    static void about(String sentence) {
        due.about(sentence);
    }

    static void is(String call, long got, long want) {
        due.is(call, got, want);
    }

    static void end() {
        due.end();
    }

    static void tell(SolidsRolled x, String letters) {
        for (int i = 0; i < letters.length(); i++) {
            x.letter(letters.charAt(i));
        }
    }

    static int told(SolidsRolled x, String letters) {
        tell(x, letters);
        return x.board();
    }

    /** A new object with a board told in letters and a solid at a place. */
    static SolidsRolled with(String letters, int kind, int place) {
        SolidsRolled x = new SolidsRolled();
        told(x, letters);
        is("places on " + letters, x.places(kind, place), 1);
        return x;
    }

    /** A new object whose solid is NONE; the latest kind is as told. */
    static SolidsRolled none(int kind) {
        SolidsRolled x = with("..;..;", kind, 0);
        told(x, "#.;..;");
        return x;
    }

    static void rolls(SolidsRolled x, String ways) {
        for (int i = 0; i < ways.length(); i++) {
            x.roll("urdl".indexOf(ways.charAt(i)));
        }
    }

    static void prints(SolidsRolled x, int... want) {
        for (int t = 0; t < want.length; t++) {
            is("print of " + t, x.of(t, 1), want[t]);
        }
    }

    /** Which face is at positions 0, 1, .. */
    static void facesAt(SolidsRolled x, int... want) {
        for (int position = 0; position < want.length; position++) {
            is("where face " + want[position] + " is", x.solid(10 + want[position]), position);
        }
    }

    static void refusals(SolidsRolled x, int... want) {
        for (int i = 0; i < want.length; i++) {
            is("refusals -" + (i + 1), x.count(11 + i), want[i]);
        }
    }

    static void reached(SolidsRolled x, int states, int places, int even, int farthest) {
        is("states", x.reached(0), states);
        is("places", x.reached(1), places);
        is("even", x.reached(2), even);
        is("farthest", x.reached(3), farthest);
    }

    static void walk(SolidsRolled x, int place, int face, int... ways) {
        for (int i = 0; i < ways.length; i++) {
            is("way " + i + " to " + place, x.walk(place, face, i), ways[i]);
        }
        is("no more ways to " + place, x.walk(place, face, ways.length), -9);
    }

    static void fill(SolidsRolled x, int hole, int states) {
        is("fill", x.fill(0), hole);
        is("states then", x.fill(1), states);
    }

    static void likely(SolidsRolled x, int n, int place, long above, long below) {
        is("likely above " + n + " " + place, x.likely(n, place, 0), above);
        is("likely below " + n + " " + place, x.likely(n, place, 1), below);
    }
}
