import java.math.BigInteger;
import java.util.ArrayDeque;
import java.util.ArrayList;
import java.util.HashMap;
import java.util.HashSet;
import java.util.List;
import java.util.Map;
import java.util.Set;
import java.util.TreeMap;

/**
 * The document once more, written in the slowest and plainest way, to be compared with the class.
 * It shares no way of reckoning with it: texts are judged by states and a stack and reckoned by
 * splitting, what hangs together is found by taking away, fewest things by trying all.
 */
final class SlowStars {
    static final class Refused extends RuntimeException {
        private static final long serialVersionUID = 1L;
    }

    int size = 16;
    String text = "";
    boolean[][] wanted = new boolean[16][16];
    Set<Integer> deer = new HashSet<>();
    int chance = 1;
    List<Integer> tape = new ArrayList<>();
    SlowStars kept = null;
    private String rememberedFor = null;
    private final Map<Integer, Boolean> remembered = new HashMap<>();

    SlowStars() {
        sheet(16);
    }

    boolean sheet(int newSize) {
        if (newSize < 2 || newSize > 16 || newSize % 2 != 0) {
            return false;
        }
        size = newSize;
        text = "";
        deer = new HashSet<>();
        wanted = new boolean[16][16];
        for (int y = 0; y < size; y++) {
            for (int x = 0; x < size; x++) {
                wanted[y][x] = true;
            }
        }
        return true;
    }

    int feed(int a, int b, int c, int d, int e) {
        if (tape.size() > 180) {
            return -1;
        }
        for (int v : new int[] {a, b, c, d, e}) {
            tape.add(v >>> 24);
            tape.add((v >>> 16) % 256);
            tape.add((v >>> 8) % 256);
            tape.add(v & 0xff);
        }
        return tape.size();
    }

    int recipe(int n) {
        if (n < 1 || n > 160 || n > tape.size()) {
            return -1;
        }
        StringBuilder b = new StringBuilder();
        for (int i = 0; i < n; i++) {
            b.append((char) (int) tape.get(i));
        }
        tape.clear();
        int fault = faultOf(b.toString());
        if (fault != 0) {
            return fault;
        }
        text = b.toString();
        return snipTexts().length;
    }

    // ---- the text

    private int[] wedgeOf(String letters) {
        int w = size;
        int h = size;
        int d = 0;
        for (char c : letters.toCharArray()) {
            if (d == 1) {
                return null;
            }
            if (c == 'h') {
                if (w % 2 != 0) {
                    return null;
                }
                w /= 2;
            } else if (c == 'v') {
                if (h % 2 != 0) {
                    return null;
                }
                h /= 2;
            } else {
                if (w != h || w < 2) {
                    return null;
                }
                d = 1;
            }
        }
        return new int[] {w, h, d};
    }

    static boolean inWedge(int[] wedge, int x, int y) {
        return x >= 0 && x < wedge[0] && y >= 0 && y < wedge[1] && (wedge[2] == 0 || y <= x);
    }

    /** 0, or the fault: by a state and a stack of what is open. */
    private int faultOf(String s) {
        String state = "folds";
        StringBuilder open = new StringBuilder();
        char side = 'L';
        int snips = 0;
        int digits = 0;
        int xAt = 0;
        int px = 0;
        int py = 0;
        int ox = 0;
        int oy = 0;
        boolean other = false;
        char kind = ' ';
        int[] wedge = {size, size, 0};
        for (int i = 0; i <= s.length(); i++) {
            char c = i < s.length() ? s.charAt(i) : (char) 999;
            boolean digit = c >= '0' && c <= '9';
            int bad = -1000 - i;
            if (state.equals("y") && (digits == 2 || (digits == 1 && !digit))) {
                if (!inWedge(wedge, px, py) || (other && (px < ox || py < oy))) {
                    return -6000 - xAt;
                }
                state = kind == 'r' && !other ? "minus" : "snipEnd";
            }
            switch (state) {
                case "folds":
                    if (c == ':') {
                        state = "snip";
                    } else if (c == 'h' || c == 'v' || c == 'd') {
                        wedge = wedgeOf(s.substring(0, i + 1));
                        if (wedge == null) {
                            return -3000 - i;
                        }
                    } else {
                        return bad;
                    }
                    break;
                case "snip":
                    if (c != 's' && c != 'r' && c != 'c') {
                        return bad;
                    }
                    if (snips == 12) {
                        return -4000 - i;
                    }
                    snips++;
                    kind = c;
                    other = false;
                    digits = 0;
                    px = 0;
                    py = 0;
                    xAt = i + 1;
                    state = c == 'c' ? "firstOpen" : "x";
                    break;
                case "x":
                    if (digit && digits < 2) {
                        digits++;
                        px = px * 10 + c - '0';
                    } else if (c == ',' && digits > 0) {
                        state = "y";
                        digits = 0;
                    } else {
                        return bad;
                    }
                    break;
                case "y":
                    if (!digit) {
                        return bad;
                    }
                    digits++;
                    py = py * 10 + c - '0';
                    break;
                case "minus":
                    if (c != '-') {
                        return bad;
                    }
                    other = true;
                    ox = px;
                    oy = py;
                    px = 0;
                    py = 0;
                    digits = 0;
                    xAt = i + 1;
                    state = "x";
                    break;
                case "firstOpen":
                    if (c != '(') {
                        return bad;
                    }
                    open.append('(');
                    state = "piece";
                    break;
                case "piece":
                case "factor":
                    boolean opens = c == '[' || (state.equals("piece") && (c == '(' || c == '!'));
                    if (opens && depth(open) == 6) {
                        return -5000 - i;
                    }
                    if (state.equals("piece")) {
                        side = 'L';
                    }
                    if (c == '[') {
                        open.append(side).append('[');
                        side = 'B';
                        state = "factor";
                    } else if (opens) {
                        open.append(c);
                        state = "piece";
                    } else if (digit) {
                        digits = 1;
                        state = "number";
                    } else if ("xywhlnz".indexOf(c) >= 0) {
                        state = "after";
                    } else {
                        return bad;
                    }
                    break;
                case "number":
                case "after":
                case "closed":
                    if (state.equals("number") && digit) {
                        digits++;
                        if (digits == 6) {
                            return -2000 - i;
                        }
                        break;
                    }
                    boolean ended = state.equals("closed") || side == 'R';
                    if (!state.equals("closed") && "+-*/%".indexOf(c) >= 0) {
                        state = "factor";
                    } else if (!state.equals("closed") && side == 'L' && "<>=".indexOf(c) >= 0) {
                        side = 'R';
                        state = "factor";
                    } else if (!state.equals("closed") && side == 'B' && c == ']') {
                        side = open.charAt(open.length() - 2);
                        open.setLength(open.length() - 2);
                        state = "after";
                    } else if (ended && (c == '&' || c == '|')) {
                        dropNots(open);
                        state = "piece";
                    } else if (ended && c == ')') {
                        dropNots(open);
                        open.setLength(open.length() - 1);
                        state = open.length() == 0 ? "snipEnd" : "closed";
                    } else {
                        return bad;
                    }
                    break;
                case "snipEnd":
                    if (i == s.length()) {
                        return 0;
                    }
                    if (c != ';') {
                        return bad;
                    }
                    state = "snip";
                    break;
                default:
                    throw new IllegalStateException(state);
            }
        }
        throw new IllegalStateException(s);
    }

    private static int depth(StringBuilder open) {
        int depth = 0;
        for (int i = 0; i < open.length(); i++) {
            if ("([!".indexOf(open.charAt(i)) >= 0) {
                depth++;
            }
        }
        return depth;
    }

    private static void dropNots(StringBuilder open) {
        while (open.charAt(open.length() - 1) == '!') {
            open.setLength(open.length() - 1);
        }
    }

    String letters() {
        return text.isEmpty() ? "" : text.substring(0, text.indexOf(':'));
    }

    String[] snipTexts() {
        return text.isEmpty() ? new String[0] : text.substring(text.indexOf(':') + 1).split(";");
    }

    /** Remembered for one text and size, as it is asked very often. */
    boolean isCut(int x, int y) {
        String key = size + text;
        if (!key.equals(rememberedFor)) {
            rememberedFor = key;
            remembered.clear();
        }
        int place = 100 * y + x;
        if (!remembered.containsKey(place)) {
            remembered.put(place, reckonCut(x, y));
        }
        return remembered.get(place);
    }

    private boolean reckonCut(int x, int y) {
        int[] wedge = wedgeOf(letters());
        if (!inWedge(wedge, x, y)) {
            return false;
        }
        String[] all = snipTexts();
        for (int n = 0; n < all.length; n++) {
            String s = all[n];
            if (s.charAt(0) == 'c') {
                Map<Character, Integer> names = new HashMap<>();
                names.put('x', x);
                names.put('y', y);
                names.put('w', wedge[0]);
                names.put('h', wedge[1]);
                names.put('l', layers(x, y));
                names.put('n', n);
                names.put('z', size);
                boolean holds;
                try {
                    holds = holds(s.substring(2, s.length() - 1), names);
                } catch (Refused r) {
                    holds = false;
                }
                if (holds) {
                    return true;
                }
            } else {
                String[] numbers = s.substring(1).split("[,-]");
                int x1 = Integer.parseInt(numbers[0]);
                int y1 = Integer.parseInt(numbers[1]);
                int x2 = numbers.length > 2 ? Integer.parseInt(numbers[2]) : x1;
                int y2 = numbers.length > 2 ? Integer.parseInt(numbers[3]) : y1;
                if (x >= x1 && x <= x2 && y >= y1 && y <= y2) {
                    return true;
                }
            }
        }
        return false;
    }

    /** The places of signs that stand outside all brackets. */
    private static List<Integer> outside(String s, String signs) {
        List<Integer> found = new ArrayList<>();
        int depth = 0;
        for (int i = 0; i < s.length(); i++) {
            char c = s.charAt(i);
            if (c == '(' || c == '[') {
                depth++;
            } else if (c == ')' || c == ']') {
                depth--;
            } else if (depth == 0 && signs.indexOf(c) >= 0) {
                found.add(i);
            }
        }
        return found;
    }

    private static boolean holds(String s, Map<Character, Integer> names) {
        List<Integer> ors = outside(s, "|");
        if (!ors.isEmpty()) {
            int at = ors.get(0);
            return holds(s.substring(0, at), names) || holds(s.substring(at + 1), names);
        }
        List<Integer> ands = outside(s, "&");
        if (!ands.isEmpty()) {
            int at = ands.get(0);
            return holds(s.substring(0, at), names) && holds(s.substring(at + 1), names);
        }
        if (s.charAt(0) == '!') {
            return !holds(s.substring(1), names);
        }
        if (s.charAt(0) == '(') {
            return holds(s.substring(1, s.length() - 1), names);
        }
        int at = outside(s, "<>=").get(0);
        int a = value(s.substring(0, at), names);
        int b = value(s.substring(at + 1), names);
        return s.charAt(at) == '<' ? a < b : s.charAt(at) == '>' ? a > b : a == b;
    }

    private static int value(String s, Map<Character, Integer> names) {
        List<Integer> signs = outside(s, "+-");
        if (signs.isEmpty()) {
            signs = outside(s, "*/%");
        }
        if (!signs.isEmpty()) {
            int at = signs.get(signs.size() - 1);
            int a = value(s.substring(0, at), names);
            int b = value(s.substring(at + 1), names);
            char sign = s.charAt(at);
            if ((sign == '/' || sign == '%') && b == 0) {
                throw new Refused();
            }
            switch (sign) {
                case '+':
                    return a + b;
                case '-':
                    return a - b;
                case '*':
                    return (int) ((long) a * b);
                case '/':
                    return (int) ((long) a / b);
                default:
                    return (int) ((long) a % b);
            }
        }
        if (s.charAt(0) == '[') {
            return value(s.substring(1, s.length() - 1), names);
        }
        return names.containsKey(s.charAt(0)) ? names.get(s.charAt(0)) : Integer.parseInt(s);
    }

    // ---- folding and opening

    /** The place a cell comes to by letters, as x and y; -1, -1 if a fold brings it beyond. */
    int[] place(String letters, int slips, int x, int y) {
        int w = size;
        int h = size;
        for (int i = 0; i < letters.length(); i++) {
            boolean slip = (slips >> i) % 2 != 0;
            char c = letters.charAt(i);
            if (c == 'h') {
                if (2 * x >= w) {
                    x = slip ? w - x : w - 1 - x;
                }
                w /= 2;
            } else if (c == 'v') {
                if (2 * y >= h) {
                    y = slip ? h - y : h - 1 - y;
                }
                h /= 2;
            } else if (y > x) {
                int t = x;
                x = y;
                y = slip ? t + 1 : t;
            }
            if (!inWedge(new int[] {w, h, c == 'd' ? 1 : 0}, x, y)) {
                return new int[] {-1, -1};
            }
        }
        return new int[] {x, y};
    }

    int wedge(int what) {
        int[] wedge = wedgeOf(letters());
        int places = 0;
        int cut = 0;
        for (int y = 0; y < 16; y++) {
            for (int x = 0; x < 16; x++) {
                if (inWedge(wedge, x, y)) {
                    places++;
                    cut += isCut(x, y) ? 1 : 0;
                }
            }
        }
        int[] answers = {wedge[0], wedge[1], places, cut, letters().length(), wedge[2]};
        return what < 0 || what > 5 ? -1 : answers[what];
    }

    int layers(int px, int py) {
        if (!inWedge(wedgeOf(letters()), px, py)) {
            return -1;
        }
        int found = 0;
        for (int y = 0; y < size; y++) {
            for (int x = 0; x < size; x++) {
                int[] to = place(letters(), 0, x, y);
                found += to[0] == px && to[1] == py ? 1 : 0;
            }
        }
        return found;
    }

    int snipped(int x, int y) {
        return !inWedge(wedgeOf(letters()), x, y) ? -1 : isCut(x, y) ? 1 : 0;
    }

    boolean isCell(int x, int y) {
        return x >= 0 && y >= 0 && x < size && y < size;
    }

    int slipped(int slips, int x, int y) {
        if (!isCell(x, y) || slips < 0 || slips >= Math.pow(2, letters().length())) {
            return -1;
        }
        int[] to = place(letters(), slips, x, y);
        return isCut(to[0], to[1]) ? 0 : 1;
    }

    int opened(int x, int y) {
        return slipped(0, x, y);
    }

    int spoilt(int slips) {
        int found = 0;
        for (int y = 0; y < size; y++) {
            for (int x = 0; x < size; x++) {
                int with = slipped(slips, x, y);
                if (with < 0) {
                    return -1;
                }
                found += with != opened(x, y) ? 1 : 0;
            }
        }
        return found;
    }

    /** Numbers of the cells with paper, rising. */
    Set<Integer> paper() {
        Set<Integer> cells = new java.util.TreeSet<>();
        Map<Integer, Boolean> known = new HashMap<>();
        for (int y = 0; y < size; y++) {
            for (int x = 0; x < size; x++) {
                int[] to = place(letters(), 0, x, y);
                int key = 16 * to[1] + to[0];
                if (!known.containsKey(key)) {
                    known.put(key, isCut(to[0], to[1]));
                }
                if (!known.get(key)) {
                    cells.add(16 * y + x);
                }
            }
        }
        return cells;
    }

    static Map<Integer, Set<Integer>> piecesOf(Set<Integer> cells) {
        Map<Integer, Set<Integer>> pieces = new TreeMap<>();
        Set<Integer> left = new java.util.TreeSet<>(cells);
        while (!left.isEmpty()) {
            int first = left.iterator().next();
            Set<Integer> one = new HashSet<>();
            ArrayDeque<Integer> todo = new ArrayDeque<>();
            todo.add(first);
            left.remove(first);
            while (!todo.isEmpty()) {
                int cell = todo.pop();
                one.add(cell);
                for (int other : beside(cell)) {
                    if (left.remove(other)) {
                        todo.add(other);
                    }
                }
            }
            pieces.put(first, one);
        }
        return pieces;
    }

    static int[] beside(int cell) {
        int x = cell % 16;
        return new int[] {x > 0 ? cell - 1 : -99, x < 15 ? cell + 1 : -99, cell - 16, cell + 16};
    }

    boolean isThread(Set<Integer> paper, int cell) {
        for (Set<Integer> one : piecesOf(paper).values()) {
            if (one.contains(cell)) {
                Set<Integer> rest = new HashSet<>(one);
                rest.remove(cell);
                return piecesOf(rest).size() > 1;
            }
        }
        return false;
    }

    int mainPiece(Map<Integer, Set<Integer>> pieces) {
        int main = -1;
        for (Map.Entry<Integer, Set<Integer>> e : pieces.entrySet()) {
            if (main < 0 || e.getValue().size() > pieces.get(main).size()) {
                main = e.getKey();
            }
        }
        return main;
    }

    int sums(int what) {
        Set<Integer> paper = paper();
        Map<Integer, Set<Integer>> pieces = piecesOf(paper);
        int main = pieces.isEmpty() ? 0 : pieces.get(mainPiece(pieces)).size();
        switch (what) {
            case 0:
                return paper.size();
            case 1:
                return pieces.size();
            case 2:
                return main;
            case 3:
                return paper.size() - main;
            case 4:
                return holes(paper);
            case 5:
                int sides = 0;
                for (int cell : paper) {
                    for (int other : beside(cell)) {
                        sides += paper.contains(other) ? 0 : 1;
                    }
                }
                return sides;
            case 6:
                int threads = 0;
                for (int cell : paper) {
                    threads += isThread(paper, cell) ? 1 : 0;
                }
                return threads;
            default:
                return -1;
        }
    }

    private int holes(Set<Integer> paper) {
        Set<Integer> bare = new HashSet<>();
        for (int y = 0; y < size; y++) {
            for (int x = 0; x < size; x++) {
                if (!paper.contains(16 * y + x)) {
                    bare.add(16 * y + x);
                }
            }
        }
        int found = 0;
        for (Set<Integer> one : piecesOf(bare).values()) {
            boolean inner = true;
            for (int cell : one) {
                int x = cell % 16;
                int y = cell / 16;
                inner &= x > 0 && y > 0 && x < size - 1 && y < size - 1;
            }
            found += inner ? 1 : 0;
        }
        return found;
    }

    int piece(int x, int y, int what) {
        if (!isCell(x, y) || what < 0 || what > 3) {
            return -1;
        }
        Set<Integer> paper = paper();
        int cell = 16 * y + x;
        if (!paper.contains(cell)) {
            return -2;
        }
        Map<Integer, Set<Integer>> pieces = piecesOf(paper);
        for (Map.Entry<Integer, Set<Integer>> e : pieces.entrySet()) {
            if (e.getValue().contains(cell)) {
                int[] answers = {
                    e.getKey(),
                    e.getValue().size(),
                    what == 2 && isThread(paper, cell) ? 1 : 0,
                    e.getKey() == mainPiece(pieces) ? 0 : 1
                };
                return answers[what];
            }
        }
        throw new IllegalStateException();
    }

    boolean deer(int x, int y, boolean is) {
        return isCell(x, y) && (is ? deer.add(16 * y + x) : deer.remove(16 * y + x));
    }

    /** By trying all sets of cells, fewest first; -9 if that would be too many. */
    int hang() {
        Set<Integer> paper = paper();
        int pieces = piecesOf(paper).size();
        if (pieces < 2) {
            return 0;
        }
        if (pieces > 6) {
            return -3;
        }
        List<Integer> free = new ArrayList<>();
        for (int y = 0; y < size; y++) {
            for (int x = 0; x < size; x++) {
                int cell = 16 * y + x;
                if (!paper.contains(cell) && !deer.contains(cell)) {
                    free.add(cell);
                }
            }
        }
        Set<Integer> all = new HashSet<>(paper);
        all.addAll(free);
        boolean can = false;
        for (Set<Integer> one : piecesOf(all).values()) {
            can |= one.containsAll(paper);
        }
        if (!can) {
            return -2;
        }
        if (free.size() > 14) {
            return -9;
        }
        int least = 99;
        for (int set = 0; set < 1 << free.size(); set++) {
            if (Integer.bitCount(set) < least) {
                Set<Integer> with = new HashSet<>(paper);
                for (int i = 0; i < free.size(); i++) {
                    if ((set >> i) % 2 == 1) {
                        with.add(free.get(i));
                    }
                }
                if (piecesOf(with).size() == 1) {
                    least = Integer.bitCount(set);
                }
            }
        }
        return least;
    }

    // ---- wanted

    boolean want(int y, int row) {
        if (y < 0 || y >= size || row < 0 || row >= Math.pow(2, size)) {
            return false;
        }
        for (int x = 0; x < size; x++) {
            wanted[y][x] = (row >> x) % 2 == 1;
        }
        return true;
    }

    int wantOpened() {
        Set<Integer> paper = paper();
        for (int y = 0; y < size; y++) {
            for (int x = 0; x < size; x++) {
                wanted[y][x] = paper.contains(16 * y + x);
            }
        }
        return paper.size();
    }

    int differs(int what) {
        Set<Integer> paper = paper();
        int found = 0;
        int first = -1;
        for (int y = 0; y < size; y++) {
            for (int x = 0; x < size; x++) {
                if (paper.contains(16 * y + x) != wanted[y][x]) {
                    found++;
                    first = first < 0 ? 16 * y + x : first;
                }
            }
        }
        return what == 0 ? found : what == 1 ? first : -1;
    }

    String lettersOf(int a, int b, int d) {
        if (a < 0 || b < 0 || a > 9 || b > 9 || d < 0 || d > 1) {
            return null;
        }
        String letters = "h".repeat(a) + "v".repeat(b) + "d".repeat(d);
        return wedgeOf(letters) == null ? null : letters;
    }

    int fits(int a, int b, int d) {
        String letters = lettersOf(a, b, d);
        if (letters == null) {
            return -1;
        }
        for (int cell = 0; cell < 256; cell++) {
            for (int early = 0; early < cell; early++) {
                if (isCell(cell % 16, cell / 16) && isCell(early % 16, early / 16)) {
                    int[] one = place(letters, 0, cell % 16, cell / 16);
                    int[] two = place(letters, 0, early % 16, early / 16);
                    if (one[0] == two[0] && one[1] == two[1]
                            && wanted[cell / 16][cell % 16] != wanted[early / 16][early % 16]) {
                        return -10 - cell;
                    }
                }
            }
        }
        return 1;
    }

    /** Of each place of folds that fit, whether it is bare. */
    Map<Integer, Boolean> bareOf(int a, int b, int d) {
        Map<Integer, Boolean> bare = new TreeMap<>();
        for (int y = 0; y < size; y++) {
            for (int x = 0; x < size; x++) {
                int[] to = place(lettersOf(a, b, d), 0, x, y);
                bare.put(16 * to[1] + to[0], !wanted[y][x]);
            }
        }
        return bare;
    }

    static int bareCount(Map<Integer, Boolean> bare) {
        int found = 0;
        for (boolean one : bare.values()) {
            found += one ? 1 : 0;
        }
        return found;
    }

    int bestFold(int what) {
        int[] best = null;
        for (int a = 0; a < 6; a++) {
            for (int b = 0; b < 6; b++) {
                for (int d = 0; d < 2; d++) {
                    if (fits(a, b, d) == 1) {
                        Map<Integer, Boolean> bare = bareOf(a, b, d);
                        if (best == null || bare.size() < best[3]) {
                            best = new int[] {a, b, d, bare.size(), bareCount(bare)};
                        }
                    }
                }
            }
        }
        return what < 0 || what > 4 ? -1 : best[what];
    }

    int snips(int a, int b, int d) {
        String letters = lettersOf(a, b, d);
        if (letters == null) {
            return -1;
        }
        Map<Integer, Boolean> bare = bareOf(a, b, d);
        if (bare.size() > 64) {
            return -4;
        }
        if (fits(a, b, d) != 1) {
            return -3;
        }
        Set<Integer> todo = new HashSet<>();
        for (Map.Entry<Integer, Boolean> e : bare.entrySet()) {
            if (e.getValue()) {
                todo.add(e.getKey());
            }
        }
        List<Set<Integer>> boxes = new ArrayList<>();
        for (int one : bare.keySet()) {
            for (int other : bare.keySet()) {
                Set<Integer> box = new HashSet<>();
                for (int y = one / 16; y <= other / 16; y++) {
                    for (int x = one % 16; x <= other % 16; x++) {
                        if (bare.containsKey(16 * y + x)) {
                            box.add(16 * y + x);
                        }
                    }
                }
                if (!box.isEmpty() && todo.containsAll(box)) {
                    boxes.add(box);
                }
            }
        }
        for (int used = 0; used <= 4; used++) {
            if (covered(todo, boxes, used)) {
                return used;
            }
        }
        return -2;
    }

    private static boolean covered(Set<Integer> todo, List<Set<Integer>> boxes, int used) {
        if (todo.isEmpty() || used == 0) {
            return todo.isEmpty();
        }
        int last = java.util.Collections.max(todo);
        for (Set<Integer> box : boxes) {
            if (box.contains(last)) {
                Set<Integer> rest = new HashSet<>(todo);
                rest.removeAll(box);
                if (covered(rest, boxes, used - 1)) {
                    return true;
                }
            }
        }
        return false;
    }

    int straight(int a, int b, int d, int what) {
        if (lettersOf(a, b, d) == null || fits(a, b, d) != 1 || what < 0 || what > 2) {
            return -1000;
        }
        Map<Integer, Boolean> bare = bareOf(a, b, d);
        if (bareCount(bare) == 0 || bareCount(bare) == bare.size()) {
            return -1000;
        }
        for (int p = -3; p <= 3; p++) {
            for (int q = -3; q <= 3; q++) {
                for (int c = -60; c <= 60; c++) {
                    boolean all = p != 0 || q != 0;
                    for (Map.Entry<Integer, Boolean> e : bare.entrySet()) {
                        int sum = p * (e.getKey() % 16) + q * (e.getKey() / 16);
                        all &= sum > c == e.getValue();
                    }
                    if (all) {
                        return what == 0 ? p : what == 1 ? q : c;
                    }
                }
            }
        }
        return -1000;
    }

    int scraps(int places, int what) {
        if (places < 0 || places > 256 || what < -1) {
            return -3;
        }
        List<Integer> found = new ArrayList<>();
        for (int code = 0; code < 1000; code++) {
            int a = code / 100;
            int b = code / 10 % 10;
            int d = code % 10;
            if (lettersOf(a, b, d) != null && fits(a, b, d) == 1
                    && bareCount(bareOf(a, b, d)) == places) {
                found.add(code);
            }
        }
        return what == -1 ? found.size() : what < found.size() ? found.get(what) : -2;
    }

    // ---- numbers

    /** By listing all patterns, for n up to 4; -9 above. */
    long alike(int n, int k) {
        if (n < 1 || n > 7 || k < 0 || k > n * n) {
            return -1;
        }
        if (n > 4) {
            return -9;
        }
        long found = 0;
        for (int p = 0; p < 1 << (n * n); p++) {
            if (Integer.bitCount(p) == k) {
                boolean lowest = true;
                int turned = p;
                for (int i = 0; i < 8; i++) {
                    turned = i == 4 ? mirror(p, n) : turn(turned, n);
                    lowest &= p <= turned;
                }
                found += lowest ? 1 : 0;
            }
        }
        return found;
    }

    private static int turn(int p, int n) {
        int to = 0;
        for (int y = 0; y < n; y++) {
            for (int x = 0; x < n; x++) {
                if ((p >> (y * n + x)) % 2 != 0) {
                    to |= 1 << (x * n + n - 1 - y);
                }
            }
        }
        return to;
    }

    private static int mirror(int p, int n) {
        int to = 0;
        for (int y = 0; y < n; y++) {
            for (int x = 0; x < n; x++) {
                if ((p >> (y * n + x)) % 2 != 0) {
                    to |= 1 << (y * n + n - 1 - x);
                }
            }
        }
        return to;
    }

    int strips(int length, int n, int what) {
        if (length < 1 || length > 255 || n < 1 || n > 10 || what < 0 || what > 1
                || tape.size() < n) {
            return -1;
        }
        int[] orders = new int[n];
        int sum = 0;
        boolean bad = false;
        for (int i = 0; i < n; i++) {
            orders[i] = tape.get(i);
            sum += orders[i];
            bad |= orders[i] == 0 || orders[i] > length;
        }
        tape.clear();
        if (bad) {
            return -2;
        }
        int fewest = cutAll(orders, 0, new int[n], 0, length);
        return what == 0 ? fewest : fewest * length - sum;
    }

    private static int cutAll(int[] orders, int i, int[] given, int used, int length) {
        if (i == orders.length) {
            return used;
        }
        int best = 99;
        for (int j = 0; j <= used && j < given.length; j++) {
            if (given[j] + orders[i] <= length) {
                given[j] += orders[i];
                best = Math.min(best, cutAll(orders, i + 1, given, Math.max(used, j + 1), length));
                given[j] -= orders[i];
            }
        }
        return best;
    }

    long odds(int tenths, int k, int what) {
        if (tenths < 0 || tenths > 10 || k < 0 || k > 8 || what < 0 || what > 1) {
            return -1;
        }
        int folds = letters().length();
        BigInteger above = BigInteger.ZERO;
        for (int slips = 0; slips < 1 << folds; slips++) {
            if (Integer.bitCount(slips) == k) {
                BigInteger one = BigInteger.ONE;
                for (int i = 0; i < folds; i++) {
                    one = one.multiply(BigInteger.valueOf(
                            (slips >> i) % 2 == 1 ? tenths : 10 - tenths));
                }
                above = above.add(one);
            }
        }
        BigInteger below = BigInteger.TEN.pow(folds);
        BigInteger common = above.gcd(below);
        return (what == 0 ? above : below).divide(common).longValueExact();
    }

    boolean seed(int x) {
        if (x < 0 || x > 65535) {
            return false;
        }
        chance = x;
        return true;
    }

    int draw(int tenths) {
        if (tenths < 0 || tenths > 10) {
            return -1;
        }
        int slips = 0;
        for (int i = 0; i < letters().length(); i++) {
            chance = (int) ((25173L * chance + 13849L) % 65536L);
            slips += chance % 10 < tenths ? (int) Math.pow(2, i) : 0;
        }
        return slips;
    }

    // ---- kept

    private void take(SlowStars other) {
        size = other.size;
        text = other.text;
        chance = other.chance;
        deer = new HashSet<>(other.deer);
        wanted = new boolean[16][];
        for (int y = 0; y < 16; y++) {
            wanted[y] = other.wanted[y].clone();
        }
    }

    int keep() {
        kept = new SlowStars();
        kept.take(this);
        return paper().size();
    }

    boolean undo() {
        if (kept == null) {
            return false;
        }
        take(kept);
        return true;
    }

    int check(int y, int n) {
        if (y < 0 || y >= size || n < 0 || n > 16 || tape.size() < 4 * n) {
            return -2;
        }
        int answer = -1;
        for (int x = n - 1; x >= 0; x--) {
            int number = tape.get(4 * x) << 24 | tape.get(4 * x + 1) << 16
                    | tape.get(4 * x + 2) << 8 | tape.get(4 * x + 3);
            if (x >= size || number != opened(x, y)) {
                answer = x;
            }
        }
        tape.clear();
        return answer;
    }

    int count(int what) {
        int wantedCells = 0;
        int[] rows = new int[16];
        for (int y = 0; y < size; y++) {
            for (int x = 0; x < size; x++) {
                wantedCells += wanted[y][x] ? 1 : 0;
                rows[y] += wanted[y][x] ? 1 << x : 0;
            }
        }
        if (what >= 20) {
            return what - 20 < size ? rows[what - 20] : -1;
        }
        int[] answers = {size, snipTexts().length, letters().length(), tape.size(), chance,
            deer.size(), wantedCells};
        return what < 0 || what > 6 ? -1 : answers[what];
    }
}
