/** The helper of the tests of "nothing is done": twins that differ in any one thing are not taken as alike. */
public final class TwinsTest {
    private static final Check CHECK = new Check("TwinsTest");

    public static void main(String[] args) throws Exception {
        CHECK.runAll(TwinsTest.class);
    }

    private static void dueDifferent(String what, Twins.Calls call) {
        CHECK.due(what + " is seen", Twins.difference(Twins::busy, call, p -> { }).isEmpty(), false);
    }

    static void eachChangeIsSeen() {
        dueDifferent("wide", p -> p.wide('~', 6));
        dueDifferent("feed", p -> p.feed(0, 0, 0, 0, 0));
        dueDifferent("end", p -> p.end(23));
        dueDifferent("fit", p -> p.fit(999));
        dueDifferent("ratio", p -> p.ratio(2));
        dueDifferent("bars", p -> p.bars());
        dueDifferent("read", p -> p.read());
        dueDifferent("take", p -> p.take());
        dueDifferent("sheet", p -> p.sheet(2, 1));
        dueDifferent("come", p -> p.come(5, 1));
        dueDifferent("print", p -> p.print(1));
        dueDifferent("spoil", p -> p.spoil(0, 1));
    }

    static void eachShorteningIsSeen() {
        for (int i = 0; i < 6; i++) {
            int which = i;
            String difference = Twins.difference(p -> { Twins.busy(p); p.end(0); },
                p -> Check.shorten(p, which, "A", ""), p -> { });
            CHECK.due("shortening " + i + " is seen", difference.isEmpty(), false);
        }
        for (int i : new int[] {0, 2, 5}) {
            String difference = Twins.difference(p -> { Twins.busy(p); p.end(0); }, p -> p.shorten(i, 0), p -> { });
            CHECK.due("shortening " + i + " gone is seen", difference.isEmpty(), false);
        }
    }

    static void alikeIsAlike() {
        CHECK.due("the same calls", Twins.difference(Twins::busy, p -> p.look(3), p -> p.look(0)), "");
    }
}
