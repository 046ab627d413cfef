/** Promise 8: out. */
public final class Promise08OutTest {
    private static final Check CHECK = new Check("Promise08OutTest");
    private static final int NONE = StickerPress.NONE;
    private static final int[] FAR = {200, 256, 65536, Integer.MAX_VALUE};

    public static void main(String[] args) throws Exception {
        CHECK.runAll(Promise08OutTest.class);
    }

    private static void dueNoneFrom(StickerPress p, int size) {
        CHECK.due("behind the last", p.out(size), NONE);
        CHECK.due("two behind the last", p.out(size + 1), NONE);
        for (int i : FAR) {
            CHECK.due("out " + i, p.out(i), NONE);
        }
    }

    /** "Byte i of OUT": from the first to the last. */
    static void eachByte() {
        StickerPress p = new StickerPress();
        Check.fit(p, "HI ~", 99);
        int[] due = {'H', 'I', 32, 126};
        for (int i = 0; i < due.length; i++) {
            CHECK.due("out " + i, p.out(i), due[i]);
        }
        dueNoneFrom(p, 4);
    }

    /** "NONE if there is none": OUT is empty. */
    static void emptyOut() {
        StickerPress p = new StickerPress();
        dueNoneFrom(p, 0);
        Check.fit(p, "ABC", 99);
        p.fit(99);
        dueNoneFrom(p, 0);
        Check.fit(p, "ABC", 99);
        Check.fit(p, "ABC", 1);
        dueNoneFrom(p, 0);
    }

    /** "NONE if there is none": i is below 0. */
    static void belowZero() {
        StickerPress p = new StickerPress();
        Check.fit(p, "ABC", 99);
        for (int i : new int[] {-1, -3, -256, Integer.MIN_VALUE}) {
            CHECK.due("out " + i, p.out(i), NONE);
        }
    }

    /** "NONE if there is none": behind the most that OUT can have, 67 stripes. */
    static void fullOut() {
        StickerPress p = new StickerPress();
        Bars.bars(p, "12345678901");
        CHECK.due("the first stripe", p.out(0), 1);
        CHECK.due("the wide one of the end", p.out(64), 2);
        CHECK.due("the last stripe", p.out(66), 1);
        dueNoneFrom(p, 67);
    }

    /** "NONE if there is none": sixty signs are the most of a text. */
    static void sixtySigns() {
        StickerPress p = new StickerPress();
        p.wide('A', 20);
        p.wide('B', 1);
        Check.shorten(p, 0, "A", "BB");
        Check.fit(p, "A".repeat(30), 60);
        CHECK.due("the last", p.out(59), 'B');
        dueNoneFrom(p, 60);
    }

    /** "NONE if there is none": a shorter OUT has nothing of a longer one ahead. */
    static void shorterThanAhead() {
        StickerPress p = new StickerPress();
        Bars.bars(p, "12345678901");
        p.take();
        p.read();
        dueNoneFrom(p, 12);
        Check.fit(p, "X", 99);
        CHECK.due("the only one", p.out(0), 'X');
        dueNoneFrom(p, 1);
    }

    static void askingChangesNothing() {
        CHECK.due("busy", Twins.difference(Twins::busy, p -> { p.out(0); p.out(99); p.out(-1); }, p -> { }), "");
    }
}
