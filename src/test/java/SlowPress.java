import java.util.ArrayList;
import java.util.Arrays;
import java.util.Collections;
import java.util.List;

/** A second press, plain and slow: it tries all sets and all layouts, and keeps lists. A helper of ModelTest. */
final class SlowPress {
    private static final int NONE = -1;
    private static final String[] CODES = {
        "00110", "10001", "01001", "11000", "00101", "10100", "01100", "00011", "10010", "01010"};

    private static final class Printed {
        int label;
        boolean spoiled;
    }

    private static final class Label {
        int group;
        int times;
        boolean waits = true;
    }

    private final int[] widths = new int[127];
    private final String[] from = new String[6];
    private final String[] to = new String[6];
    private String tape = "";
    private String out = "";
    private int used = NONE;
    private int ratio = 2;
    private int fault = 0;
    private int place = NONE;
    private int behind = 0;
    private final boolean[][] free = new boolean[3][40];
    private final Printed[][] cells = new Printed[3][40];
    private final List<Label> labels = new ArrayList<>();
    private int[] best;
    private int pieces;
    private int inHeaps;
    private boolean sought;

    SlowPress() {
        Arrays.fill(widths, 5);
        widths[32] = 3;
    }

    boolean wide(int sign, int w) {
        if (sign < 32 || sign > 126 || w < 1 || w > 20) {
            return false;
        }
        widths[sign] = w;
        return true;
    }

    int feed(int... five) {
        if (tape.length() > 180) {
            return NONE;
        }
        for (int number : five) {
            tape += "" + (char) (number >>> 24) + (char) (number >>> 16 & 255) + (char) (number >>> 8 & 255) + (char) (number & 255);
        }
        return tape.length();
    }

    boolean end(int n) {
        if (n < 0 || n > tape.length()) {
            return false;
        }
        tape = tape.substring(0, n);
        return true;
    }

    private String takeTape() {
        String all = tape;
        tape = "";
        return all;
    }

    private static boolean isText(String text) {
        return text.chars().allMatch(c -> c >= 32 && c <= 126);
    }

    boolean shorten(int i, int n) {
        String all = takeTape();
        if (i < 0 || i > 5) {
            return false;
        }
        if (all.isEmpty() && n == 0) {
            from[i] = null;
            return true;
        }
        if (n < 1 || n > 6 || n > all.length() || all.length() > n + 6 || !isText(all)) {
            return false;
        }
        from[i] = all.substring(0, n);
        to[i] = all.substring(n);
        return true;
    }

    /** The text by the set, or null. String.replace goes from the left and on behind what it put. */
    private String by(String text, int set) {
        for (int i = 0; i < 6; i++) {
            if ((set >> i & 1) == 1) {
                if (from[i] == null) {
                    return null;
                }
                text = text.replace(from[i], to[i]);
                if (text.length() > 60) {
                    return null;
                }
            }
        }
        return text;
    }

    private int widthOf(String text) {
        return text.chars().map(c -> widths[c]).sum();
    }

    int fit(int width) {
        String text = takeTape();
        if (width < 0 || width > 999 || text.length() > 30 || !isText(text)) {
            return NONE;
        }
        List<int[]> fits = new ArrayList<>();
        for (int set = 0; set < 64; set++) {
            String made = by(text, set);
            if (made != null && widthOf(made) <= width) {
                fits.add(new int[] {Integer.bitCount(set), -widthOf(made), set});
            }
        }
        if (fits.isEmpty()) {
            out = "";
            return NONE;
        }
        int[] first = Collections.min(fits, Arrays::compare);
        used = first[2];
        out = by(text, used);
        return -first[1];
    }

    int used() {
        return used;
    }

    int out(int i) {
        return i < 0 || i >= out.length() ? NONE : out.charAt(i);
    }

    boolean ratio(int r) {
        if (r < 2 || r > 3) {
            return false;
        }
        ratio = r;
        return true;
    }

    static int checkOf(String digits) {
        int sum = 0;
        for (int i = 0; i < digits.length(); i++) {
            int fromEnd = digits.length() - i;
            sum += (digits.charAt(i) - '0') * (fromEnd % 2 == 1 ? 3 : 1);
        }
        int check = 0;
        while ((sum + check) % 10 != 0) {
            check++;
        }
        return check;
    }

    /** Narrow stripes are 'n', wide ones 'w'. */
    static String stripesOf(String digits) {
        StringBuilder all = new StringBuilder("nnnn");
        for (int i = 0; i < digits.length(); i += 2) {
            for (int k = 0; k < 5; k++) {
                all.append(CODES[digits.charAt(i) - '0'].charAt(k) == '1' ? 'w' : 'n');
                all.append(CODES[digits.charAt(i + 1) - '0'].charAt(k) == '1' ? 'w' : 'n');
            }
        }
        return all + "wnn";
    }

    static String withCheck(String digits) {
        String all = digits + checkOf(digits);
        return all.length() % 2 == 1 ? "0" + all : all;
    }

    int bars() {
        String digits = takeTape();
        if (!digits.matches("[0-9]{1,11}")) {
            return NONE;
        }
        out = stripesOf(withCheck(digits)).replace('n', (char) 1).replace('w', (char) ratio);
        return out.length();
    }

    int read() {
        String all = takeTape();
        place = 0;
        behind = 0;
        boolean measures = all.chars().allMatch(c -> c >= 1 && c <= 99);
        if (!measures || all.length() < 17 || all.length() > 67 || all.length() % 10 != 7) {
            fault = 1;
            return NONE;
        }
        int middle = all.chars().min().getAsInt() + all.chars().max().getAsInt();
        StringBuilder stripes = new StringBuilder();
        all.chars().forEach(c -> stripes.append(2 * c > middle ? 'w' : 'n'));
        int[] ahead = new int[2];
        String digits = digitsOf(stripes.toString(), ahead);
        if (digits == null) {
            digits = digitsOf(stripes.reverse().toString(), new int[2]);
            behind = digits == null ? 0 : 1;
        }
        if (digits == null) {
            fault = ahead[0];
            place = ahead[1];
            return NONE;
        }
        fault = 0;
        place = NONE;
        out = digits;
        return out.length();
    }

    /** The digits, or null and the fault with its place. */
    private static String digitsOf(String stripes, int[] why) {
        if (!stripes.startsWith("nnnn") || !stripes.endsWith("wnn")) {
            why[0] = 2;
            return null;
        }
        StringBuilder digits = new StringBuilder();
        for (int at = 4; at + 10 < stripes.length(); at += 10) {
            for (int half = 0; half < 2; half++) {
                StringBuilder five = new StringBuilder();
                for (int k = 0; k < 5; k++) {
                    five.append(stripes.charAt(at + 2 * k + half) == 'w' ? '1' : '0');
                }
                int digit = Arrays.asList(CODES).indexOf(five.toString());
                if (digit < 0) {
                    why[0] = 3;
                    why[1] = (at - 4) / 5;
                    return null;
                }
                digits.append(digit);
            }
        }
        String told = digits.substring(0, digits.length() - 1);
        if (!digits.toString().equals(told + checkOf(told))) {
            why[0] = 4;
            return null;
        }
        return digits.toString();
    }

    int fault(int what) {
        return what == 0 ? fault : what == 1 ? place : what == 2 ? behind : NONE;
    }

    int take() {
        tape = out;
        return tape.length();
    }

    private static boolean isCell(int s, int c) {
        return s >= 0 && s <= 2 && c >= 0 && c <= 39;
    }

    boolean sheet(int s, long set) {
        if (s < 0 || s > 2 || set < 0 || set > 0xFFFFFFFFFFL) {
            return false;
        }
        for (int c = 0; c < 40; c++) {
            free[s][c] = (set >> c & 1) == 1;
            cells[s][c] = null;
        }
        sought = false;
        return true;
    }

    private int waiting(int g) {
        return (int) labels.stream().filter(x -> x.waits && x.group == g).count();
    }

    private int freeOf(int s) {
        int sum = 0;
        for (boolean cell : free[s]) {
            sum += cell ? 1 : 0;
        }
        return sum;
    }

    int come(int g, int n) {
        if (g < 0 || g > 5 || n < 1 || n > 40 || waiting(g) + n > 40 || labels.size() + n > 200) {
            return NONE;
        }
        int first = labels.size();
        for (int i = 0; i < n; i++) {
            Label one = new Label();
            one.group = g;
            labels.add(one);
        }
        sought = false;
        return first;
    }

    /** All layouts in their order; the first with the fewest pieces, and then sheets, is kept. */
    private int[] best() {
        if (sought) {
            return best;
        }
        sought = true;
        best = null;
        int[] waits = new int[6];
        int groups = 0;
        for (int g = 0; g < 6; g++) {
            waits[g] = waiting(g);
            groups += waits[g] > 0 ? 1 : 0;
        }
        int[] sizes = {freeOf(0), freeOf(1), freeOf(2)};
        int[] heaps = new int[9];
        for (int code = 0; code < 729 * 64; code++) {
            int rest = code;
            for (int s = 2; s >= 0; s--) {
                heaps[6 + s] = rest % 4;
                rest /= 4;
            }
            boolean can = true;
            for (int g = 5; g >= 0; g--) {
                heaps[g] = rest % 3;
                rest /= 3;
                can &= waits[g] > 0 || heaps[g] == 0;
            }
            if (can) {
                tryLayout(heaps, waits, sizes, groups);
            }
        }
        return best;
    }

    private void tryLayout(int[] heaps, int[] waits, int[] sizes, int groups) {
        int[] room = new int[4];
        boolean[] has = new boolean[4];
        int sheets = 0;
        for (int s = 0; s < 3; s++) {
            room[heaps[6 + s]] += sizes[s];
            has[heaps[6 + s]] = true;
            sheets += heaps[6 + s] < 3 ? 1 : 0;
        }
        for (int g = 0; g < 6; g++) {
            room[heaps[g]] -= waits[g];
        }
        if (room[0] < 0 || room[1] < 0 || room[2] < 0) {
            return;
        }
        int torn = groups + sheets - (has[0] ? 1 : 0) - (has[1] ? 1 : 0) - (has[2] ? 1 : 0);
        if (best == null || torn < pieces || torn == pieces && sheets < inHeaps) {
            best = heaps.clone();
            pieces = torn;
            inHeaps = sheets;
        }
    }

    int look(int what) {
        switch (what) {
            case 0:
                return labels.size();
            case 1:
                return (int) labels.stream().filter(x -> x.waits).count();
            case 2:
                return freeOf(0) + freeOf(1) + freeOf(2);
            case 3:
                return best() == null ? NONE : pieces;
            case 4:
                return best() == null ? NONE : inHeaps;
            default:
                return NONE;
        }
    }

    int heap(int g, int what) {
        if (best() == null || g < 0 || what < 0 || what > 1 || g > (what == 0 ? 5 : 2)) {
            return NONE;
        }
        int found = best()[what * 6 + g];
        return found == 3 ? NONE : found;
    }

    /** The labels by sheet and cell, NONE where none would be. */
    private int[][] planned() {
        int[][] plan = new int[3][40];
        for (int[] row : plan) {
            Arrays.fill(row, NONE);
        }
        for (int heap = 0; heap < 3 && best() != null; heap++) {
            List<Integer> row = new ArrayList<>();
            for (int g = 0; g < 6; g++) {
                for (int i = 0; i < labels.size(); i++) {
                    if (best()[g] == heap && labels.get(i).waits && labels.get(i).group == g) {
                        row.add(i);
                    }
                }
            }
            for (int s = 0; s < 3; s++) {
                for (int c = 0; c < 40; c++) {
                    if (best()[6 + s] == heap && free[s][c] && !row.isEmpty()) {
                        plan[s][c] = row.remove(0);
                    }
                }
            }
        }
        return plan;
    }

    int plan(int s, int c) {
        return isCell(s, c) ? planned()[s][c] : NONE;
    }

    int print(int s) {
        if (s < 0 || s > 2 || best() == null) {
            return NONE;
        }
        int[] row = planned()[s];
        int count = 0;
        for (int c = 0; c < 40; c++) {
            if (row[c] != NONE) {
                count++;
                free[s][c] = false;
                cells[s][c] = new Printed();
                cells[s][c].label = row[c];
                labels.get(row[c]).waits = false;
                labels.get(row[c]).times++;
            }
        }
        sought = false;
        return count;
    }

    int printed(int s, int c) {
        return isCell(s, c) && cells[s][c] != null ? cells[s][c].label : NONE;
    }

    int spoil(int s, int c) {
        int number = printed(s, c);
        if (number == NONE || cells[s][c].spoiled || waiting(labels.get(number).group) == 40) {
            return NONE;
        }
        cells[s][c].spoiled = true;
        labels.get(number).waits = true;
        sought = false;
        return number;
    }

    int label(int i, int what) {
        if (i < 0 || i >= labels.size() || what < 0 || what > 2) {
            return NONE;
        }
        Label one = labels.get(i);
        return what == 0 ? one.group : what == 1 ? one.times : one.waits ? 1 : 0;
    }
}
