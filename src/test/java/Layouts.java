/** Presses with sheets, and their best layout as a text; a helper of the tests of sheets. */
final class Layouts {
    static final long ALL = (1L << 40) - 1;

    private Layouts() {
    }

    /** The first n cells. */
    static long first(int n) {
        return (1L << n) - 1;
    }

    static StickerPress with(int a, int b, int c) {
        StickerPress p = new StickerPress();
        p.sheet(0, first(a));
        p.sheet(1, first(b));
        p.sheet(2, first(c));
        return p;
    }

    /** The heaps of groups, a bar, the heaps of sheets ('-' for none), then pieces and sheets. */
    static String best(StickerPress p) {
        StringBuilder all = new StringBuilder();
        for (int g = 0; g < 6; g++) {
            all.append(heapSign(p.heap(g, 0)));
        }
        all.append('|');
        for (int s = 0; s < 3; s++) {
            all.append(heapSign(p.heap(s, 1)));
        }
        return all.append(' ').append(p.look(3)).append(' ').append(p.look(4)).toString();
    }

    private static char heapSign(int heap) {
        return heap == StickerPress.NONE ? '-' : (char) ('0' + heap);
    }
}
