import java.math.BigInteger;
import java.util.ArrayList;
import java.util.Arrays;
import java.util.HashMap;
import java.util.LinkedHashMap;
import java.util.List;
import java.util.Map;
import java.util.TreeMap;
import java.util.TreeSet;

/** The document once more, said as slowly and plainly as can be; ModelTest compares the class with it. */
final class Model {
    /** What THE IMAGE holds. */
    private static final class Scene {
        int rows = 4;
        int columns = 4;
        TreeMap<Integer, Integer> tiles = new TreeMap<>();
        TreeMap<Integer, Integer> prints = new TreeMap<>();
        int kind = 0;
        Pose solid;
        int ink = 1;

        Scene copy() {
            Scene copy = new Scene();
            copy.rows = rows;
            copy.columns = columns;
            copy.tiles = new TreeMap<>(tiles);
            copy.prints = new TreeMap<>(prints);
            copy.kind = kind;
            copy.solid = solid;
            copy.ink = ink;
            return copy;
        }
    }

    private record Ahead(Pose solid, TreeMap<Integer, Integer> prints) {
    }

    private record Laid(int kind, int below) {
    }

    private record Shelf(int kind, List<Laid> places) {
    }

    private Scene s = new Scene();
    private Scene imaged = null;
    private StringBuilder letters = new StringBuilder();
    private List<Ahead> undone = new ArrayList<>();
    private int[][] lists = new int[3][];
    private Shelf[] shelves = new Shelf[3];
    private Map<Integer, Integer> refused = new HashMap<>();

    Model() {
        s.solid = Pose.placed(0, 0, 4);
    }

    private int refuse(int code) {
        refused.merge(code, 1, Integer::sum);
        return code;
    }

    private long refuseLong(int code) {
        return 4000000000000000000L - refuse(code);
    }

    private int tileCount() {
        return s.rows * s.columns;
    }

    private boolean isTile(int tile) {
        return 0 <= tile && tile < tileCount();
    }

    private boolean isPlace(int kind, int place) {
        return 0 <= place && place < (kind >= 4 ? 2 * tileCount() : tileCount());
    }

    private int sides() {
        return s.kind >= 4 ? 4 : 6;
    }

    private int what(int tile) {
        return s.tiles.getOrDefault(tile, 0);
    }

    private TreeSet<Integer> under(Pose pose) {
        TreeSet<Integer> found = new TreeSet<>();
        for (int each : pose.rowsAndColumns()) {
            found.add(Math.floorDiv(each, 1000) * s.columns + Math.floorMod(each, 1000));
        }
        return found;
    }

    private boolean mayLie(int kind, Pose pose) {
        for (int each : pose.rowsAndColumns()) {
            int row = Math.floorDiv(each + 500, 1000);
            int column = each - 1000 * row;
            if (row < 0 || row >= s.rows || column < 0 || column >= s.columns) {
                return false;
            }
            int is = what(row * s.columns + column);
            if (is == 1 || is == 2 && (kind == 1 || kind == 3 && !pose.stands())) {
                return false;
            }
        }
        return true;
    }

    private Pose rolled(Pose pose, int way) {
        Pose next = pose.rolled(way);
        if (next == null || !mayLie(s.kind, next)) {
            return null;
        }
        if (s.kind == 5 && s.prints.containsKey(under(next).first())) {
            return null;
        }
        return next;
    }

    int letter(int c) {
        if (c < 0) {
            return refuse(-4);
        }
        if (c > 255 || letters.length() == 72) {
            return refuse(-6);
        }
        letters.append((char) c);
        return letters.length();
    }

    /** Whether letters can go on, so that they become a board in the end. */
    private static boolean goesOn(String told) {
        String[] parts = told.split(";", -1);
        for (int i = 0; i < parts.length; i++) {
            boolean whole = i < parts.length - 1;
            if (!parts[i].matches("[.#~]*") || parts[i].length() > parts[0].length() && i > 0) {
                return false;
            }
            if (parts[i].length() > 6 || whole && (parts[i].isEmpty() || parts[i].length() != parts[0].length())) {
                return false;
            }
            if (i == 6 && !parts[i].isEmpty()) {
                return false;
            }
        }
        return parts.length <= 7;
    }

    int board() {
        String told = letters.toString();
        letters = new StringBuilder();
        for (int n = 1; n <= told.length(); n++) {
            if (!goesOn(told.substring(0, n))) {
                return -1000 - (n - 1);
            }
        }
        if (!told.endsWith(";")) {
            return -1000 - told.length();
        }
        String[] parts = told.split(";");
        s.rows = parts.length;
        s.columns = parts[0].length();
        s.tiles.clear();
        s.prints.clear();
        String signs = told.replace(";", "");
        for (int t = 0; t < signs.length(); t++) {
            s.tiles.put(t, ".#~".indexOf(signs.charAt(t)));
        }
        Pose placed = Pose.placed(s.kind, 0, s.columns);
        s.solid = mayLie(s.kind, placed) ? placed : null;
        undone.clear();
        return tileCount();
    }

    int tile(int tile, int what) {
        if (!isTile(tile)) {
            return refuse(-1);
        }
        if (what < 0 || what > 2) {
            return refuse(-2);
        }
        if (s.solid != null && under(s.solid).contains(tile)) {
            boolean heavy = s.kind == 1 || s.kind == 3 && !s.solid.stands();
            if (what == 1 || what == 2 && heavy) {
                return refuse(-3);
            }
        }
        int was = what(tile);
        s.tiles.put(tile, what);
        return was;
    }

    int of(int tile, int what) {
        if (!isTile(tile)) {
            return refuse(-1);
        }
        if (what != 0 && what != 1) {
            return refuse(-2);
        }
        return what == 0 ? what(tile) : s.prints.getOrDefault(tile, -9);
    }

    int places(int kind, int place) {
        if (kind < 0 || kind > 5) {
            return refuse(-2);
        }
        if (!isPlace(kind, place)) {
            return refuse(-1);
        }
        Pose placed = Pose.placed(kind, place, s.columns);
        if (!mayLie(kind, placed)) {
            return refuse(-3);
        }
        s.kind = kind;
        s.solid = placed;
        undone.clear();
        return 1;
    }

    int ink(int is) {
        if (is != 0 && is != 1) {
            return refuse(-2);
        }
        int was = s.ink;
        s.ink = is;
        return was;
    }

    int wipes() {
        int bore = s.prints.size();
        s.prints.clear();
        return bore;
    }

    int solid(int what) {
        if (!(what >= 0 && what <= 5 || what >= 10 && what < 10 + sides())) {
            return refuse(-2);
        }
        if (s.solid == null) {
            return refuse(-3);
        }
        switch (what) {
            case 0:
                return s.kind;
            case 1:
                return s.solid.place(s.columns);
            case 2:
                return s.solid.below();
            case 3:
                return s.solid.rowsAndColumns().size();
            case 4:
                return (s.kind == 2 || s.kind == 3) && s.solid.stands() ? 1 : 0;
            case 5:
                return s.solid instanceof Pose.Tetra t && t.pointsUp() ? 1 : 0;
            default:
                return s.solid.positionOf(what - 10);
        }
    }

    private boolean rollTruly(int way) {
        Pose next = rolled(s.solid, way);
        if (next == null) {
            return false;
        }
        undone.add(new Ahead(s.solid, new TreeMap<>(s.prints)));
        if (undone.size() > 20) {
            undone.remove(0);
        }
        s.solid = next;
        if (s.ink == 1) {
            for (int t : under(next)) {
                s.prints.put(t, next.below());
            }
        }
        return true;
    }

    int roll(int way) {
        if (way < 0 || way > 3) {
            return refuse(-2);
        }
        if (s.solid == null || !rollTruly(way)) {
            return refuse(-3);
        }
        return s.solid.below();
    }

    int ways() {
        if (s.solid == null) {
            return refuse(-3);
        }
        int bits = 0;
        for (int way = 0; way < 4; way++) {
            bits += rolled(s.solid, way) == null ? 0 : 1 << way;
        }
        return bits;
    }

    int walks() {
        if (s.solid == null) {
            return refuse(-3);
        }
        int done = 0;
        for (char each : letters.toString().toCharArray()) {
            int way = "urdl".indexOf(each);
            if (way < 0 || !rollTruly(way)) {
                break;
            }
            done++;
        }
        letters = new StringBuilder();
        return done;
    }

    int judge() {
        if (s.solid == null) {
            return refuse(-3);
        }
        Pose at = s.solid;
        for (int i = 0; i < letters.length(); i++) {
            int way = "urdl".indexOf(letters.charAt(i));
            at = way < 0 ? null : rolled(at, way);
            if (at == null) {
                return i;
            }
        }
        return -9;
    }

    int undo() {
        if (undone.isEmpty()) {
            return refuse(-3);
        }
        Ahead ahead = undone.remove(undone.size() - 1);
        s.solid = ahead.solid();
        s.prints = ahead.prints();
        return undone.size();
    }

    private Map<String, Pose> next(Map<String, Pose> from) {
        Map<String, Pose> found = new LinkedHashMap<>();
        for (Pose pose : from.values()) {
            for (int way = 0; way < 4; way++) {
                Pose next = rolled(pose, way);
                if (next != null) {
                    found.put(next.key(), next);
                }
            }
        }
        return found;
    }

    /** States come to first behind 0, 1, .. rolls. */
    private List<Map<String, Pose>> layers(Pose from) {
        List<Map<String, Pose>> layers = new ArrayList<>();
        Map<String, Pose> all = new HashMap<>();
        Map<String, Pose> layer = new LinkedHashMap<>();
        layer.put(from.key(), from);
        while (!layer.isEmpty()) {
            layers.add(layer);
            all.putAll(layer);
            layer = next(layer);
            layer.keySet().removeAll(all.keySet());
        }
        return layers;
    }

    private int states(Pose from) {
        int sum = 0;
        for (Map<String, Pose> each : layers(from)) {
            sum += each.size();
        }
        return sum;
    }

    private boolean even() {
        Map<String, Pose> even = new HashMap<>(Map.of(s.solid.key(), s.solid));
        Map<String, Pose> odd = new HashMap<>();
        int sum = 0;
        while (even.size() + odd.size() > sum) {
            sum = even.size() + odd.size();
            odd.putAll(next(even));
            even.putAll(next(odd));
        }
        for (String each : even.keySet()) {
            if (odd.containsKey(each)) {
                return true;
            }
        }
        return false;
    }

    int reached(int what) {
        if (what < 0 || what > 3) {
            return refuse(-2);
        }
        if (s.solid == null) {
            return refuse(-3);
        }
        switch (what) {
            case 0:
                return states(s.solid);
            case 1:
                TreeSet<Integer> places = new TreeSet<>();
                for (Map<String, Pose> layer : layers(s.solid)) {
                    for (Pose pose : layer.values()) {
                        places.add(pose.place(s.columns));
                    }
                }
                return places.size();
            case 2:
                return even() ? 1 : 0;
            default:
                return layers(s.solid).size() - 1;
        }
    }

    private boolean isGoal(int place, int face) {
        return isPlace(s.kind, place) && face >= -1 && face < sides();
    }

    private int soonestFrom(Pose from, int place, int face) {
        List<Map<String, Pose>> layers = layers(from);
        for (int i = 0; i < layers.size(); i++) {
            for (Pose pose : layers.get(i).values()) {
                if (pose.stands() && pose.place(s.columns) == place && (face == -1 || pose.below() == face)) {
                    return i;
                }
            }
        }
        return -9;
    }

    int soonest(int place, int face) {
        if (!isGoal(place, face)) {
            return refuse(-1);
        }
        return s.solid == null ? refuse(-3) : soonestFrom(s.solid, place, face);
    }

    int walk(int place, int face, int i) {
        if (!isGoal(place, face)) {
            return refuse(-1);
        }
        if (i < 0) {
            return refuse(-4);
        }
        if (s.solid == null) {
            return refuse(-3);
        }
        List<Integer> ways = new ArrayList<>();
        Pose at = s.solid;
        for (int left = soonestFrom(at, place, face); left > 0; left--) {
            for (int way = 0; way < 4; way++) {
                Pose next = rolled(at, way);
                if (next != null && soonestFrom(next, place, face) == left - 1) {
                    ways.add(way);
                    at = next;
                    break;
                }
            }
        }
        return i < ways.size() ? ways.get(i) : -9;
    }

    int faces(int place) {
        if (!isPlace(s.kind, place)) {
            return refuse(-1);
        }
        if (s.solid == null) {
            return refuse(-3);
        }
        int bits = 0;
        for (Map<String, Pose> layer : layers(s.solid)) {
            for (Pose pose : layer.values()) {
                bits |= pose.place(s.columns) == place ? 1 << pose.below() : 0;
            }
        }
        return bits;
    }

    int fill(int what) {
        if (what != 0 && what != 1) {
            return refuse(-2);
        }
        if (s.solid == null) {
            return refuse(-3);
        }
        int most = states(s.solid);
        int best = -9;
        for (int t = 0; t < tileCount(); t++) {
            if (what(t) == 1) {
                s.tiles.put(t, 0);
                int then = states(s.solid);
                s.tiles.put(t, 1);
                if (then > most) {
                    most = then;
                    best = t;
                }
            }
        }
        return what == 0 || best < 0 ? best : most;
    }

    long needed(int place) {
        if (!isPlace(s.kind, place)) {
            return refuseLong(-1);
        }
        if (s.solid == null) {
            return refuseLong(-3);
        }
        int now = soonestFrom(s.solid, place, -1);
        long bits = 0;
        for (int t = 0; t < tileCount() && now >= 0; t++) {
            if (!under(s.solid).contains(t)) {
                int was = what(t);
                s.tiles.put(t, 1);
                int then = soonestFrom(s.solid, place, -1);
                s.tiles.put(t, was);
                bits |= then < 0 || then > now ? 1L << t : 0;
            }
        }
        return bits;
    }

    int paint(int tile, int face) {
        if (!isTile(tile) || face < 0 || face >= sides()) {
            return refuse(-1);
        }
        if (s.solid == null) {
            return refuse(-3);
        }
        if (s.prints.getOrDefault(tile, -1) == face) {
            return 0;
        }
        Map<String, Pose> behind = Map.of(s.solid.key(), s.solid);
        int most = layers(s.solid).size();
        for (int n = 1; n <= most; n++) {
            behind = next(behind);
            for (Pose pose : behind.values()) {
                if (pose.below() == face && under(pose).contains(tile)) {
                    return n;
                }
            }
        }
        return -9;
    }

    private long countWalks(Pose at, int n, int place) {
        if (n == 0) {
            return at.place(s.columns) == place ? 1 : 0;
        }
        long sum = 0;
        for (int way = 0; way < 4; way++) {
            Pose next = rolled(at, way);
            sum += countWalks(next == null ? at : next, n - 1, place);
        }
        return sum;
    }

    long likely(int n, int place, int part) {
        if (!isPlace(s.kind, place)) {
            return refuseLong(-1);
        }
        if (n < 0) {
            return refuseLong(-4);
        }
        if (n > 12) {
            return refuseLong(-6);
        }
        if (part != 0 && part != 1) {
            return refuseLong(-2);
        }
        if (s.solid == null) {
            return refuseLong(-3);
        }
        BigInteger above = BigInteger.valueOf(n <= 5 ? countWalks(s.solid, n, place) : countLong(n, place));
        BigInteger below = BigInteger.valueOf(4).pow(n);
        BigInteger shared = above.gcd(below);
        return (part == 0 ? above : below).divide(shared).longValueExact();
    }

    private long countLong(int n, int place) {
        Map<String, Pose> poses = new HashMap<>(Map.of(s.solid.key(), s.solid));
        Map<String, Long> counts = new HashMap<>(Map.of(s.solid.key(), 1L));
        for (int i = 0; i < n; i++) {
            Map<String, Long> then = new HashMap<>();
            for (String key : counts.keySet()) {
                for (int way = 0; way < 4; way++) {
                    Pose next = rolled(poses.get(key), way);
                    next = next == null ? poses.get(key) : next;
                    poses.putIfAbsent(next.key(), next);
                    then.merge(next.key(), counts.get(key), Long::sum);
                }
            }
            counts = then;
        }
        long sum = 0;
        for (String key : counts.keySet()) {
            sum += poses.get(key).place(s.columns) == place ? counts.get(key) : 0;
        }
        return sum;
    }

    int lots(int n, int z, int what) {
        if (n < 1) {
            return refuse(-4);
        }
        if (n > 50) {
            return refuse(-6);
        }
        if (what != 0 && what != 1) {
            return refuse(-2);
        }
        if (s.solid == null) {
            return refuse(-3);
        }
        BigInteger seed = BigInteger.valueOf(z);
        Pose at = s.solid;
        int done = 0;
        for (int i = 0; i < n; i++) {
            seed = seed.multiply(BigInteger.valueOf(1664525)).add(BigInteger.valueOf(1013904223));
            seed = seed.mod(BigInteger.ONE.shiftLeft(32));
            int draw = seed.clearBit(31).shiftRight(8).intValueExact() % 4;
            Pose next = rolled(at, draw);
            if (next != null) {
                at = next;
                done++;
            }
        }
        return what == 0 ? done : at.place(s.columns);
    }

    private static boolean ofThree(int i) {
        return i >= 0 && i <= 2;
    }

    int list(int list, int n) {
        if (!ofThree(list)) {
            return refuse(-1);
        }
        if (n > 40) {
            return refuse(-6);
        }
        if (n < 0) {
            return -14;
        }
        lists[list] = new int[n];
        return 1;
    }

    int put(int list, int i, int v) {
        if (!ofThree(list)) {
            return refuse(-1);
        }
        if (lists[list] == null) {
            return -11;
        }
        if (i < 0 || i >= lists[list].length) {
            return -13;
        }
        lists[list][i] = v;
        return 1;
    }

    long look(int list, int i) {
        if (!ofThree(list)) {
            return refuseLong(-1);
        }
        if (lists[list] == null) {
            return 4000000000000000011L;
        }
        return i < 0 || i >= lists[list].length ? 4000000000000000013L : lists[list][i];
    }

    int lays(int list, int i) {
        if (!ofThree(list)) {
            return refuse(-1);
        }
        if (lists[list] == null) {
            return -11;
        }
        for (int t = 0; t < tileCount(); t++) {
            long at = (long) i + t;
            if (at < 0 || at >= lists[list].length) {
                return -13;
            }
            lists[list][(int) at] = s.prints.getOrDefault(t, -1);
        }
        return tileCount();
    }

    int tells(int list) {
        if (!ofThree(list)) {
            return refuse(-1);
        }
        if (lists[list] == null) {
            return -11;
        }
        for (int t = 0; t < lists[list].length; t++) {
            if (t >= tileCount() || lists[list][t] != s.prints.getOrDefault(t, -1)) {
                return t;
            }
        }
        return -9;
    }

    int rack(int rack, int kind, int n) {
        if (!ofThree(rack)) {
            return refuse(-1);
        }
        if (kind < 0 || kind > 5) {
            return refuse(-2);
        }
        if (n > 9) {
            return refuse(-6);
        }
        if (n < 0) {
            return -14;
        }
        shelves[rack] = new Shelf(kind, new ArrayList<>(Arrays.asList(new Laid[n])));
        return 1;
    }

    int racks(int rack, int i, int what) {
        if (!ofThree(rack)) {
            return refuse(-1);
        }
        if (what != 0 && what != 1) {
            return refuse(-2);
        }
        if (what == 1 && s.solid == null) {
            return refuse(-3);
        }
        if (shelves[rack] == null) {
            return -11;
        }
        if (i < 0 || i >= shelves[rack].places().size()) {
            return -13;
        }
        int made = shelves[rack].kind();
        if (what == 1 && s.kind != made && !(made % 2 == 0 && s.kind == made + 1)) {
            return -16;
        }
        shelves[rack].places().set(i, what == 0 ? null : new Laid(s.kind, s.solid.below()));
        return 1;
    }

    int racked(int rack, int i, int what) {
        if (!ofThree(rack)) {
            return refuse(-1);
        }
        if (what != 0 && what != 1) {
            return refuse(-2);
        }
        if (shelves[rack] == null) {
            return -11;
        }
        if (i < 0 || i >= shelves[rack].places().size()) {
            return -13;
        }
        Laid laid = shelves[rack].places().get(i);
        return laid == null ? -9 : what == 0 ? laid.kind() : laid.below();
    }

    int like(int rack, int other) {
        if (!ofThree(rack) || !ofThree(other)) {
            return refuse(-1);
        }
        if (shelves[other] == null) {
            return -11;
        }
        shelves[rack] = new Shelf(shelves[other].kind(), new ArrayList<>(shelves[other].places()));
        return shelves[rack].places().size();
    }

    int image() {
        imaged = s.copy();
        return s.solid == null ? -9 : s.solid.place(s.columns);
    }

    int on() {
        if (imaged == null) {
            return refuse(-3);
        }
        s = imaged.copy();
        undone.clear();
        return s.solid == null ? -9 : s.solid.place(s.columns);
    }

    int count(int what) {
        int holes = 0;
        int cracked = 0;
        for (int t = 0; t < tileCount(); t++) {
            holes += what(t) == 1 ? 1 : 0;
            cracked += what(t) == 2 ? 1 : 0;
        }
        if (what >= 11 && what <= 16) {
            return refused.getOrDefault(10 - what, 0);
        }
        int[] told = {s.rows, s.columns, holes, cracked, s.prints.size(), s.ink, letters.length(), undone.size(),
            s.kind};
        return what >= 0 && what <= 8 ? told[what] : -9;
    }
}
