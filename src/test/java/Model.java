import java.util.ArrayList;
import java.util.Arrays;
import java.util.List;

/**
 * The document once more, written as slowly and plainly as it can be and without a look at the program, so
 * that both can be held against each other. Nothing is kept from one question to the next.
 */
final class Model {
    static final int NONE = -1, BAD = -2, NOT = -3, FULL = -4;

    static final class Ring {
        char[][] picture;
        int of = NONE;
        int day = NONE;
    }

    static final class Held {
        int ring, person, from, to;
    }

    static final class Lump {
        char[][] picture;
        int from, to, back, door;
        boolean aside;
    }

    static final class Sheet {
        int form;
        int[] items;
    }

    static final class Lead {
        int lump, ring, turned;
        String chipped, whole;
    }

    final StringBuilder line = new StringBuilder();
    final List<Ring> rings = new ArrayList<>();
    final List<Held> helds = new ArrayList<>();
    final List<Lump> lumps = new ArrayList<>();
    final Sheet[] sheets = new Sheet[4];
    int latest = 0;

    // ---- lines

    int type(int b) {
        if (b < 0 || b > 255) return BAD;
        if (line.length() == 40) return FULL;
        line.append((char) b);
        return line.length();
    }

    int wipe() {
        int n = line.length();
        line.setLength(0);
        return n;
    }

    int fault() {
        int signs = 0;
        int i = 0;
        String s = line.toString();
        while (i < s.length()) {
            if ("#.?".indexOf(s.charAt(i)) < 0) return i;
            signs++;
            if (signs > 16) return i;
            i++;
            if (i < s.length() && s.charAt(i) == '*') {
                i++;
                int j = i;
                while (j < s.length() && j < i + 2 && s.charAt(j) >= '0' && s.charAt(j) <= '9') j++;
                if (j == i) return i;
                int times = Integer.parseInt(s.substring(i, j));
                if (times < 2 || times > 16) return i;
                signs += times - 1;
                if (signs > 16) return i;
                i = j;
            }
        }
        return signs < 16 ? s.length() : NONE;
    }

    String signsOfLine() {
        StringBuilder all = new StringBuilder();
        String s = line.toString();
        for (int i = 0; i < s.length(); i++) {
            char c = s.charAt(i);
            if ("#.?".indexOf(c) >= 0) {
                all.append(c);
            } else if (c == '*') {
                int j = i + 1;
                while (j < s.length() && Character.isDigit(s.charAt(j))) j++;
                int times = Integer.parseInt(s.substring(i + 1, j));
                char last = all.charAt(all.length() - 1);
                for (int k = 1; k < times; k++) all.append(last);
            }
        }
        return all.toString();
    }

    static char[][] grid(String signs) {
        char[][] g = new char[4][4];
        for (int i = 0; i < 16; i++) g[i / 4][i % 4] = signs.charAt(i);
        return g;
    }

    static char[][] turn(char[][] g, int times) {
        for (int k = 0; k < times; k++) {
            char[][] next = new char[4][4];
            for (int r = 0; r < 4; r++) for (int p = 0; p < 4; p++) next[p][3 - r] = g[r][p];
            g = next;
        }
        return g;
    }

    static int bits(char[][] g, char sign) {
        int bits = 0;
        for (int i = 0; i < 16; i++) if (g[i / 4][i % 4] == sign) bits |= 1 << i;
        return bits;
    }

    // ---- rings, lumps

    int ring() {
        if (fault() != NONE || line.indexOf("?") >= 0) return NOT;
        if (rings.size() == 6) return FULL;
        Ring r = new Ring();
        r.picture = grid(signsOfLine());
        rings.add(r);
        wipe();
        return rings.size() - 1;
    }

    boolean noRing(int r) {
        return r < 0 || r >= rings.size();
    }

    boolean noLump(int l) {
        return l < 0 || l >= lumps.size();
    }

    static boolean noDay(int d) {
        return d < 0 || d > 59;
    }

    int newer(int ring) {
        for (int k = 0; k < rings.size(); k++) if (rings.get(k).of == ring) return k;
        return NONE;
    }

    int anew(int ring, int of, int day) {
        if (noRing(ring) || noRing(of) || noDay(day) || of >= ring) return BAD;
        if (rings.get(ring).of != NONE || newer(of) != NONE) return NOT;
        rings.get(ring).of = of;
        rings.get(ring).day = day;
        return 1;
    }

    int held(int ring, int person, int from, int to) {
        if (noRing(ring) || person < 0 || person > 7 || noDay(from) || noDay(to) || to < from) return BAD;
        if (helds.size() == 12) return FULL;
        Held h = new Held();
        h.ring = ring;
        h.person = person;
        h.from = from;
        h.to = to;
        helds.add(h);
        return helds.size() - 1;
    }

    int read(int s) {
        if (s < 0 || s > 3) return BAD;
        if (sheets[s] == null) return finding(1);
        int[] v = sheets[s].items;
        int taken = 0;
        while (4 * taken + 4 <= v.length) {
            int k = 4 * taken;
            if (held(v[k], v[k + 1], v[k + 2], v[k + 3]) < 0) break;
            taken++;
        }
        return taken;
    }

    int lump(int from, int to, int back, int door) {
        if (noDay(from) || noDay(to) || to < from || back < 0 || back > 3 || door < 0 || door > 3) return BAD;
        if (fault() != NONE) return NOT;
        if (lumps.size() == 12) return FULL;
        Lump l = new Lump();
        l.picture = grid(signsOfLine());
        l.from = from;
        l.to = to;
        l.back = back;
        l.door = door;
        lumps.add(l);
        wipe();
        return lumps.size() - 1;
    }

    int asideBits() {
        int bits = 0;
        for (int l = 0; l < lumps.size(); l++) if (lumps.get(l).aside) bits |= 1 << l;
        return bits;
    }

    int aside(int bits) {
        for (int k = 0; k < 32; k++) if ((bits >> k & 1) == 1 && k >= lumps.size()) return BAD;
        int were = asideBits();
        for (int l = 0; l < lumps.size(); l++) lumps.get(l).aside = (bits >> l & 1) == 1;
        return were;
    }

    int lumpIs(int lump, int what) {
        if (noLump(lump) || what < 0 || what > 6) return BAD;
        Lump l = lumps.get(lump);
        int[] all = {bits(l.picture, '#'), bits(l.picture, '?'), l.from, l.to, l.back, l.door, l.aside ? 1 : 0};
        return all[what];
    }

    int stone(int ring) {
        return rings.get(ring).of == NONE ? ring : stone(rings.get(ring).of);
    }

    int ringIs(int ring, int what) {
        if (noRing(ring) || what < 0 || what > 4) return BAD;
        Ring r = rings.get(ring);
        int many = 0;
        for (Held h : helds) if (h.ring == ring) many++;
        int[] all = {bits(r.picture, '#'), r.of, r.day, stone(ring), many};
        return all[what];
    }

    // ---- what can be

    boolean wasPressed(int ring, int day) {
        Ring r = rings.get(ring);
        if (r.of != NONE && day < r.day) return false;
        int newer = newer(ring);
        if (newer != NONE && day > rings.get(newer).day) return false;
        boolean any = false;
        for (Held h : helds) {
            if (h.ring == ring) {
                any = true;
                if (h.from <= day && day <= h.to) return true;
            }
        }
        return !any;
    }

    boolean canBe(int lump, int ring, int turned) {
        char[][] seen = lumps.get(lump).picture;
        char[][] picture = turn(rings.get(ring).picture, turned);
        for (int r = 0; r < 4; r++) {
            for (int p = 0; p < 4; p++) if (seen[r][p] == '#' && picture[r][p] != '#') return false;
        }
        for (int d = lumps.get(lump).from; d <= lumps.get(lump).to; d++) if (wasPressed(ring, d)) return true;
        return false;
    }

    int can(int lump, int ring) {
        if (noLump(lump) || noRing(ring)) return BAD;
        int bits = 0;
        for (int t = 0; t < 4; t++) if (canBe(lump, ring, t)) bits |= 1 << t;
        return bits;
    }

    /** The cells of the RING where it has a mark and the LUMP shows the sign. */
    int cellsWith(int lump, int ring, int turned, char sign) {
        char[][] home = turn(lumps.get(lump).picture, (4 - turned) % 4);
        int bits = 0;
        for (int i = 0; i < 16; i++) {
            if (rings.get(ring).picture[i / 4][i % 4] == '#' && home[i / 4][i % 4] == sign) bits |= 1 << i;
        }
        return bits;
    }

    int cells(int lump, int ring, int turned, int what) {
        if (noLump(lump) || noRing(ring) || turned < 0 || turned > 3 || what < 0 || what > 1) return BAD;
        if (!canBe(lump, ring, turned)) return NOT;
        return cellsWith(lump, ring, turned, what == 0 ? '.' : '#');
    }

    boolean isEarlier(int ring, int a, int ta, int b, int tb) {
        return (cellsWith(a, ring, ta, '#') & cellsWith(b, ring, tb, '.')) != 0;
    }

    int earlier(int ring, int a, int ta, int b, int tb) {
        if (noRing(ring) || noLump(a) || noLump(b) || a == b) return BAD;
        if (ta < 0 || ta > 3 || tb < 0 || tb > 3) return BAD;
        if (!canBe(a, ring, ta) || !canBe(b, ring, tb)) return NOT;
        return isEarlier(ring, a, ta, b, tb) ? 1 : 0;
    }

    // ---- ways

    List<Integer> active() {
        List<Integer> all = new ArrayList<>();
        for (int l = 0; l < lumps.size(); l++) if (!lumps.get(l).aside) all.add(l);
        return all;
    }

    List<Lead> leads(int lump) {
        List<Lead> all = new ArrayList<>();
        for (int r = 0; r < rings.size(); r++) {
            List<Integer> told = new ArrayList<>();
            for (int t = 0; t < 4; t++) {
                if (!canBe(lump, r, t)) continue;
                int like = cellsWith(lump, r, t, '.') << 16 | cellsWith(lump, r, t, '#');
                if (told.contains(like)) continue;
                told.add(like);
                Lead lead = new Lead();
                lead.lump = lump;
                lead.ring = r;
                lead.turned = t;
                all.add(lead);
            }
        }
        return all;
    }

    boolean agree(List<Lead> of) {
        int n = of.size();
        boolean[][] ahead = new boolean[n][n];
        for (int i = 0; i < n; i++) {
            for (int j = 0; j < n; j++) {
                Lead a = of.get(i), b = of.get(j);
                ahead[i][j] = i != j && isEarlier(a.ring, a.lump, a.turned, b.lump, b.turned);
            }
        }
        boolean[][] on = new boolean[n][];
        for (int i = 0; i < n; i++) on[i] = ahead[i].clone();
        for (int k = 0; k < n; k++) {
            for (int i = 0; i < n; i++) for (int j = 0; j < n; j++) on[i][j] |= on[i][k] && on[k][j];
        }
        for (int i = 0; i < n; i++) if (on[i][i]) return false;
        int[] day = new int[n];
        for (boolean moved = true; moved;) {
            moved = false;
            for (int i = 0; i < n; i++) {
                Lump l = lumps.get(of.get(i).lump);
                int least = Math.max(day[i], l.from);
                for (int j = 0; j < n; j++) if (ahead[j][i]) least = Math.max(least, day[j]);
                while (least <= l.to && !wasPressed(of.get(i).ring, least)) least++;
                if (least > l.to) return false;
                if (least != day[i]) {
                    day[i] = least;
                    moved = true;
                }
            }
        }
        return true;
    }

    void find(List<List<Lead>> open, List<Lead> way, List<Lead[]> found, int most) {
        if (found.size() == most) return;
        if (way.size() == open.size()) {
            found.add(way.toArray(new Lead[0]));
            return;
        }
        for (Lead lead : open.get(way.size())) {
            way.add(lead);
            List<Lead> same = new ArrayList<>();
            for (Lead other : way) if (other.ring == lead.ring) same.add(other);
            if (agree(same)) find(open, way, found, most);
            way.remove(way.size() - 1);
        }
    }

    List<Lead[]> waysOf(List<Integer> which, int most) {
        List<List<Lead>> open = new ArrayList<>();
        for (int l : which) open.add(leads(l));
        List<Lead[]> found = new ArrayList<>();
        for (List<Lead> some : open) if (some.isEmpty()) return found;
        find(open, new ArrayList<>(), found, most);
        return found;
    }

    /** Asked for often between two changes, so the last answer is kept under all that it hangs on. */
    private String keptFor = "";
    private List<Lead[]> kept;

    List<Lead[]> allWays() {
        StringBuilder key = new StringBuilder("k");
        for (Ring r : rings) key.append(bits(r.picture, '#')).append(',').append(r.of).append(',').append(r.day).append(';');
        for (Held h : helds) key.append(h.ring).append(',').append(h.from).append(',').append(h.to).append(';');
        for (int l = 0; l < lumps.size(); l++) key.append(lumps.get(l).aside ? 'a' : 'l');
        if (!keptFor.contentEquals(key)) {
            keptFor = key.toString();
            kept = waysOf(active(), 20000);
        }
        return kept;
    }

    int noWays() {
        if (active().size() > 8) return FULL;
        return allWays().isEmpty() ? NOT : 0;
    }

    int ways() {
        return active().size() > 8 ? FULL : allWays().size();
    }

    int stonesOf(Lead[] way) {
        int bits = 0;
        for (Lead lead : way) bits |= 1 << stone(lead.ring);
        return Integer.bitCount(bits);
    }

    Lead[] bestWay() {
        Lead[] best = null;
        for (Lead[] way : allWays()) if (best == null || stonesOf(way) < stonesOf(best)) best = way;
        return best;
    }

    int stones() {
        return noWays() != 0 ? noWays() : stonesOf(bestWay());
    }

    int best(int lump, int what) {
        if (noLump(lump) || what < 0 || what > 1) return BAD;
        if (noWays() != 0) return noWays();
        for (Lead lead : bestWay()) if (lead.lump == lump) return what == 0 ? lead.ring : lead.turned;
        return NONE;
    }

    int mayBits(int lump) {
        int bits = 0;
        for (Lead[] way : allWays()) for (Lead lead : way) if (lead.lump == lump) bits |= 1 << lead.ring;
        return bits;
    }

    int may(int lump) {
        if (noLump(lump)) return BAD;
        return noWays() != 0 ? noWays() : mayBits(lump);
    }

    int mayStones(int lump) {
        int bits = 0;
        int may = mayBits(lump);
        for (int r = 0; r < rings.size(); r++) if ((may >> r & 1) == 1) bits |= 1 << stone(r);
        return Integer.bitCount(bits);
    }

    int sure() {
        if (noWays() != 0) return noWays();
        int bits = 0;
        for (int l : active()) if (mayStones(l) == 1) bits |= 1 << l;
        return bits;
    }

    boolean byHeld(int lump, int may, Held h) {
        if ((may >> h.ring & 1) == 0) return false;
        for (int d = lumps.get(lump).from; d <= lumps.get(lump).to; d++) {
            if (wasPressed(h.ring, d) && h.from <= d && d <= h.to) return true;
        }
        return false;
    }

    int pressed(int lump) {
        if (noLump(lump)) return BAD;
        if (noWays() != 0) return noWays();
        int bits = 0;
        int may = mayBits(lump);
        for (Held h : helds) if (byHeld(lump, may, h)) bits |= 1 << h.person;
        return bits;
    }

    int empty() {
        if (noWays() != 0) return noWays();
        int bits = (1 << helds.size()) - 1;
        for (int l : active()) {
            int may = mayBits(l);
            for (int k = 0; k < helds.size(); k++) if (byHeld(l, may, helds.get(k))) bits &= ~(1 << k);
        }
        return bits;
    }

    int leftOut() {
        List<Integer> all = active();
        if (all.size() > 8) return FULL;
        int least = 0;
        int fewest = 99;
        for (int out = 0; out < 4096; out++) {
            boolean fits = Integer.bitCount(out) < fewest;
            for (int l = 0; l < 12; l++) if ((out >> l & 1) == 1 && !all.contains(l)) fits = false;
            if (!fits) continue;
            List<Integer> rest = new ArrayList<>();
            for (int l : all) if ((out >> l & 1) == 0) rest.add(l);
            if (!waysOf(rest, 1).isEmpty()) {
                least = out;
                fewest = Integer.bitCount(out);
            }
        }
        return least;
    }

    // ---- unknown rings, copies

    boolean areJoined(int a, int b) {
        Lump first = lumps.get(a), second = lumps.get(b);
        for (int t = 0; t < 4; t++) {
            char[][] s = turn(second.picture, t);
            boolean firstShows = false, secondShows = false;
            for (int r = 0; r < 4; r++) {
                for (int p = 0; p < 4; p++) {
                    if (first.picture[r][p] == '#' && s[r][p] == '.') firstShows = true;
                    if (first.picture[r][p] == '.' && s[r][p] == '#') secondShows = true;
                }
            }
            if (firstShows && secondShows) continue;
            if (firstShows && first.from > second.to) continue;
            if (secondShows && second.from > first.to) continue;
            return true;
        }
        return false;
    }

    int joined(int a, int b) {
        if (noLump(a) || noLump(b) || a == b) return BAD;
        return areJoined(a, b) ? 1 : 0;
    }

    /** All rows of numbers in their order; the first one with the fewest numbers. */
    int[] onesRow() {
        List<Integer> all = active();
        int[] best = null;
        int[] row = new int[all.size()];
        int fewest = 99;
        return tryRows(all, row, 0, 0, new int[][] {best}, new int[] {fewest});
    }

    private int[] tryRows(List<Integer> all, int[] row, int at, int used, int[][] best, int[] fewest) {
        if (at == row.length) {
            if (used < fewest[0]) {
                fewest[0] = used;
                best[0] = row.clone();
            }
            return best[0];
        }
        for (int k = 0; k <= used; k++) {
            boolean fits = true;
            for (int j = 0; j < at; j++) if (row[j] == k && !areJoined(all.get(j), all.get(at))) fits = false;
            if (!fits) continue;
            row[at] = k;
            tryRows(all, row, at + 1, Math.max(used, k + 1), best, fewest);
        }
        return best[0];
    }

    int least() {
        if (active().size() > 8) return FULL;
        return Arrays.stream(onesRow()).max().orElse(-1) + 1;
    }

    int ones(int lump) {
        if (noLump(lump)) return BAD;
        if (active().size() > 8) return FULL;
        int at = active().indexOf(lump);
        return at < 0 ? NONE : onesRow()[at];
    }

    int differ(int a, int b) {
        int least = 99;
        for (int t = 0; t < 4; t++) {
            char[][] turned = turn(rings.get(a).picture, t);
            int many = 0;
            for (int i = 0; i < 16; i++) if (turned[i / 4][i % 4] != rings.get(b).picture[i / 4][i % 4]) many++;
            least = Math.min(least, many);
        }
        return least;
    }

    int near(int a, int b) {
        if (noRing(a) || noRing(b) || a == b) return BAD;
        return differ(a, b);
    }

    int copyOf(int ring, int most) {
        if (noRing(ring) || most < 0 || most > 16) return BAD;
        for (int many = 0; many <= most; many++) {
            for (int r = 0; r < rings.size(); r++) {
                if (r != ring && stone(r) != stone(ring) && differ(r, ring) == many) return r;
            }
        }
        return NONE;
    }

    // ---- doors, cleaning

    List<Lump> pegs(int door) {
        List<Lump> all = new ArrayList<>();
        for (Lump l : lumps) if (!l.aside && l.back == 1 && l.door == door) all.add(l);
        return all;
    }

    int shut(int door, int day, int what) {
        if (door < 0 || door > 3 || noDay(day) || what < 0 || what > 1) return BAD;
        int many = 0;
        for (Lump l : pegs(door)) {
            boolean can = l.from <= day && day <= l.to;
            if (can && (what == 0 || l.from == l.to)) many++;
        }
        return many;
    }

    int gap(int door) {
        if (door < 0 || door > 3) return BAD;
        int most = 0;
        for (int a = 0; a < 60; a++) {
            if (shut(door, a, 0) == 0) continue;
            int b = a + 1;
            while (b < 60 && shut(door, b, 0) == 0) b++;
            if (b < 60) most = Math.max(most, b - a - 1);
        }
        return most;
    }

    int clean() {
        if (noWays() != 0) return noWays();
        int best = NONE, stones = 0, hidden = 0;
        for (int l : active()) {
            int s = mayStones(l);
            int c = Integer.bitCount(bits(lumps.get(l).picture, '?'));
            if (s < 2 || c < 1) continue;
            if (s > stones || s == stones && c > hidden) {
                best = l;
                stones = s;
                hidden = c;
            }
        }
        return best;
    }

    // ---- sheets

    int finding(int number) {
        latest = number;
        return -10 - number;
    }

    int sheet(int s, int form, int n) {
        if (s < 0 || s > 3 || form < 0 || form > 2 || n > 48) return BAD;
        if (n < 0) return finding(5);
        sheets[s] = new Sheet();
        sheets[s].form = form;
        sheets[s].items = new int[n];
        return n;
    }

    int lose(int s) {
        if (s < 0 || s > 3) return BAD;
        if (sheets[s] == null) return finding(1);
        int n = sheets[s].items.length;
        sheets[s] = null;
        return n;
    }

    static int cut(int form, int v) {
        return form == 0 ? (byte) v : form == 1 ? (short) v : v;
    }

    int trouble(int s, int form, int i) {
        if (sheets[s] == null) return 1;
        if (sheets[s].form != form) return 3;
        return i < 0 || i >= sheets[s].items.length ? 2 : 0;
    }

    int put(int s, int form, int i, int v) {
        if (s < 0 || s > 3 || form < 0 || form > 2) return BAD;
        if (trouble(s, form, i) != 0) return finding(trouble(s, form, i));
        sheets[s].items[i] = cut(form, v);
        return 1;
    }

    int get(int s, int form, int i) {
        if (s < 0 || s > 3 || form < 0 || form > 2) return Integer.MIN_VALUE;
        if (trouble(s, form, i) != 0) {
            finding(trouble(s, form, i));
            return Integer.MIN_VALUE;
        }
        return sheets[s].items[i];
    }

    int copy(int s, int i, int t, int j, int n) {
        if (s < 0 || s > 3 || t < 0 || t > 3) return BAD;
        if (sheets[s] == null || sheets[t] == null) return finding(1);
        if (sheets[s].form != sheets[t].form) return finding(4);
        if (i < 0 || j < 0 || n < 0) return finding(2);
        if ((long) i + n > sheets[s].items.length || (long) j + n > sheets[t].items.length) return finding(2);
        int[] were = sheets[s].items.clone();
        for (int k = 0; k < n; k++) sheets[t].items[j + k] = were[i + k];
        return 1;
    }

    int write(int s) {
        if (s < 0 || s > 3) return BAD;
        if (sheets[s] == null) return finding(1);
        if (noWays() != 0) return noWays();
        int n = Math.min(sheets[s].items.length, lumps.size());
        for (int l = 0; l < n; l++) sheets[s].items[l] = cut(sheets[s].form, best(l, 0));
        return n;
    }

    int count(int what) {
        int stones = 0;
        for (int r = 0; r < rings.size(); r++) if (stone(r) == r) stones++;
        int hidden = 0;
        for (Lump l : lumps) hidden += Integer.bitCount(bits(l.picture, '?'));
        switch (what) {
            case 0: return rings.size();
            case 1: return stones;
            case 2: return lumps.size();
            case 3: return asideBits();
            case 4: return helds.size();
            case 5: return line.length();
            case 6: return hidden;
            case 8: return latest;
            default: return BAD;
        }
    }

    long digest() {
        List<Integer> all = new ArrayList<>();
        for (int k = 0; k <= 6; k++) all.add(count(k));
        all.add(fault());
        for (int r = 0; r < rings.size(); r++) for (int k = 0; k <= 4; k++) all.add(ringIs(r, k));
        for (int l = 0; l < lumps.size(); l++) {
            for (int k = 0; k <= 6; k++) all.add(lumpIs(l, k));
            all.addAll(List.of(best(l, 0), best(l, 1), may(l)));
        }
        all.addAll(List.of(ways(), stones(), sure(), empty(), leftOut(), least()));
        long h = 17;
        for (int v : all) h = 31 * h + v;
        return h;
    }
}
