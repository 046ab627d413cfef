import java.util.Random;

/** Long mixed runs on a press and on a slow one: each call must be answered alike. The seeds are told, so runs repeat. */
public final class ModelTest {
    private static final Check CHECK = new Check("ModelTest");
    /** A step is at most some twenty calls, so that no object has more than 512. */
    private static final int CALLS = 490;
    private static final int[] ODD = {-1, 6, 7, 40, 41, 200, Integer.MAX_VALUE, Integer.MIN_VALUE};

    private final Random random;
    private final String run;
    private final boolean tight;
    private final StickerPress fast = new StickerPress();
    private final SlowPress slow = new SlowPress();
    private int calls;

    private ModelTest(int seed) {
        random = new Random(seed);
        run = "run " + seed + ": ";
        tight = seed % 2 == 0;
    }

    public static void main(String[] args) {
        for (int seed = 1; seed <= 200 && CHECK.wrong() < 20; seed++) {
            new ModelTest(seed).names();
            new ModelTest(seed).bars();
            new ModelTest(seed).sheets();
            new ModelTest(seed).all();
        }
        CHECK.close();
    }

    private void names() {
        while (calls < CALLS) {
            nameStep();
        }
    }

    private void bars() {
        while (calls < CALLS) {
            barStep();
        }
    }

    private void sheets() {
        while (calls < CALLS) {
            sheetStep();
        }
    }

    private void all() {
        while (calls < CALLS) {
            switch (random.nextInt(4)) {
                case 0 -> nameStep();
                case 1 -> barStep();
                case 2 -> sheetStep();
                default -> loose();
            }
        }
    }

    private void due(String call, long got, long want) {
        calls++;
        CHECK.due(run + call, got, want);
    }

    private void due(String call, boolean got, boolean want) {
        due(call, got ? 1 : 0, want ? 1 : 0);
    }

    private int upTo(int most) {
        return random.nextInt(most + 1);
    }

    /** A number 0 .. most, or, once in twelve, one that can't be. */
    private int some(int most) {
        return random.nextInt(12) == 0 ? ODD[random.nextInt(ODD.length)] : upTo(most);
    }

    private String signs(String of, int most) {
        StringBuilder text = new StringBuilder();
        for (int n = upTo(most); n > 0; n--) {
            text.append(of.charAt(random.nextInt(of.length())));
        }
        return text.toString();
    }

    private void feed(int[] n) {
        due("feed", fast.feed(n[0], n[1], n[2], n[3], n[4]), slow.feed(n[0], n[1], n[2], n[3], n[4]));
    }

    private void end(int n) {
        due("end " + n, fast.end(n), slow.end(n));
    }

    /** Most often the tape is empty ahead of it, so that it has just the text then. */
    private void tape(String text) {
        if (random.nextInt(10) > 0) {
            end(0);
        }
        for (int start = 0; start < text.length(); start += 20) {
            int[] five = new int[5];
            for (int i = 0; i < 20; i++) {
                int b = start + i < text.length() ? text.charAt(start + i) : random.nextInt(256);
                five[i / 4] |= b << (24 - 8 * (i % 4));
            }
            feed(five);
        }
        end(text.length());
    }

    private void outs() {
        int i = random.nextInt(5) == 0 ? some(70) : upTo(8);
        due("out " + i, fast.out(i), slow.out(i));
        due("used", fast.used(), slow.used());
    }

    private void nameStep() {
        String of = tight ? "AB" : "ABC .";
        switch (random.nextInt(8)) {
            case 0, 1 -> {
                String from = signs(of, tight ? 3 : 7);
                String to = signs(of + "d", random.nextInt(3) == 0 ? 7 : 2);
                int i = some(5);
                int n = random.nextInt(8) == 0 ? some(7) : from.length();
                tape(from + to);
                due("shorten " + i + " " + n, fast.shorten(i, n), slow.shorten(i, n));
            }
            case 2 -> {
                int sign = random.nextInt(4) == 0 ? some(130) : of.charAt(random.nextInt(of.length()));
                int w = some(21);
                due("wide " + sign + " " + w, fast.wide(sign, w), slow.wide(sign, w));
            }
            default -> {
                String text = signs(random.nextInt(20) == 0 ? of + "\u001f\u007f" : of, 31);
                int width = random.nextInt(15) == 0 ? some(1001) : upTo(1 + 6 * text.length());
                tape(text);
                due("fit " + width + " of '" + text + "'", fast.fit(width), slow.fit(width));
                outs();
                outs();
            }
        }
    }

    private void barStep() {
        switch (random.nextInt(4)) {
            case 0 -> {
                int r = random.nextInt(3) == 0 ? some(4) : 2 + upTo(1);
                due("ratio " + r, fast.ratio(r), slow.ratio(r));
                tape(signs(random.nextInt(8) == 0 ? "0123456789:/" : "0123456789", 12));
                due("bars", fast.bars(), slow.bars());
                outs();
            }
            case 1 -> {
                due("take", fast.take(), slow.take());
                due("read taken", fast.read(), slow.read());
            }
            default -> {
                tape(measured());
                due("read", fast.read(), slow.read());
                outs();
            }
        }
        int what = some(3);
        due("fault " + what, fast.fault(what), slow.fault(what));
        for (what = 0; what < 3; what++) {
            due("fault " + what, fast.fault(what), slow.fault(what));
        }
    }

    /** Stripes of a number, perhaps with a wrong check, a wrong stripe or a wrong measure, perhaps turned about. */
    private String measured() {
        String digits = SlowPress.withCheck("" + upTo(9) + signs("0123456789", 10));
        if (random.nextInt(4) == 0) {
            digits = digits.substring(1) + upTo(9);
        }
        StringBuilder stripes = new StringBuilder(SlowPress.stripesOf(digits));
        for (int n = random.nextInt(3) == 0 ? upTo(2) : 0; n > 0; n--) {
            int i = random.nextInt(stripes.length());
            stripes.setCharAt(i, stripes.charAt(i) == 'w' ? 'n' : 'w');
        }
        int narrow = 1 + upTo(30);
        int wide = narrow + 1 + upTo(60);
        int noise = random.nextInt(3) == 0 ? upTo(wide - narrow) : 0;
        for (int i = 0; i < stripes.length(); i++) {
            int width = (stripes.charAt(i) == 'w' ? wide : narrow) + upTo(noise);
            stripes.setCharAt(i, (char) Math.min(width, 99));
        }
        if (random.nextInt(20) == 0) {
            stripes.setCharAt(random.nextInt(stripes.length()), (char) new int[] {0, 100, 128, 255}[random.nextInt(4)]);
        }
        if (random.nextInt(20) == 0) {
            stripes.append((char) 1);
        }
        return (random.nextInt(2) == 0 ? stripes.reverse() : stripes).toString();
    }

    private void sheetStep() {
        int kind = random.nextInt(12);
        if (kind == 0) {
            int s = some(2);
            long free = freeCells();
            due("sheet " + s + " " + free, fast.sheet(s, free), slow.sheet(s, free));
        } else if (kind <= 3) {
            int g = some(5);
            int n = tight ? some(5) : some(12);
            due("come " + g + " " + n, fast.come(g, n), slow.come(g, n));
        } else if (kind == 4) {
            int s = some(2);
            due("print " + s, fast.print(s), slow.print(s));
        } else if (kind <= 6) {
            int s = some(2);
            int c = some(tight ? 12 : 39);
            due("printed " + s + " " + c, fast.printed(s, c), slow.printed(s, c));
            due("spoil " + s + " " + c, fast.spoil(s, c), slow.spoil(s, c));
            due("printed " + s + " " + c, fast.printed(s, c), slow.printed(s, c));
        } else {
            asks();
        }
    }

    private long freeCells() {
        if (random.nextInt(15) == 0) {
            return random.nextLong();
        }
        long all = (1L << (tight ? 12 : 40)) - 1;
        return random.nextInt(3) == 0 ? all : random.nextLong() & all;
    }

    private void asks() {
        for (int what = 0; what < 5; what++) {
            due("look " + what, fast.look(what), slow.look(what));
        }
        int g = some(5);
        due("heap " + g + " 0", fast.heap(g, 0), slow.heap(g, 0));
        int s = some(2);
        due("heap " + s + " 1", fast.heap(s, 1), slow.heap(s, 1));
        for (int k = 0; k < 3; k++) {
            int c = some(tight ? 12 : 39);
            int on = some(2);
            due("plan " + on + " " + c, fast.plan(on, c), slow.plan(on, c));
        }
        int i = some(60);
        int what = some(2);
        due("label " + i + " " + what, fast.label(i, what), slow.label(i, what));
    }

    /** Calls that no step makes in this order. */
    private void loose() {
        int n = some(200);
        switch (random.nextInt(7)) {
            case 0 -> end(n);
            case 1 -> feed(random.ints(5).toArray());
            case 2 -> due("fit " + n, fast.fit(n), slow.fit(n));
            case 3 -> due("read", fast.read(), slow.read());
            case 4 -> due("take", fast.take(), slow.take());
            case 5 -> due("look " + n, fast.look(n), slow.look(n));
            default -> due("heap " + n, fast.heap(n, n), slow.heap(n, n));
        }
    }
}
