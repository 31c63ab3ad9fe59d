/** Promise 12: rule, and how versions are judged. */
public final class RuleTest {
    private static final Due DUE = new Due("RuleTest");
    private static final byte[] ONE = Wire.bytes("one");
    private static final byte[] TWO = Wire.bytes("two!");
    private static final byte[] NONE = new byte[0];

    public static void main(String[] args) {
        refuses();
        eachKind();
        offIsAny();
        firstByKindThenFile();
        judgedOnceAsRulesAre();
        severalByOnePacket();
        DUE.end();
    }

    private static void refuses() {
        DiodeLink x = new DiodeLink();
        int[][] wrong = {{-1, 0}, {4, 0}, {0, -1}, {0, 97}, {1, -1}, {1, 7}, {2, -1}, {2, 256}, {3, -1}, {3, 256},
            {Integer.MIN_VALUE, 0}, {Integer.MAX_VALUE, 0}, {2, Integer.MAX_VALUE}, {3, Integer.MIN_VALUE}};
        for (int[] a : wrong) {
            for (boolean on : new boolean[] {true, false}) {
                DUE.refusesArgument("rule(" + a[0] + ", " + a[1] + ", " + on + ")", () -> {
                    x.rule(a[0], a[1], on);
                    return 0;
                });
            }
        }
        int[][] right = {{0, 0}, {0, 96}, {1, 0}, {1, 6}, {2, 0}, {2, 255}, {3, 0}, {3, 255}};
        for (int[] a : right) {
            DUE.is("rule(" + a[0] + ", " + a[1] + ")", Due.thrownBy(() -> {
                x.rule(a[0], a[1], true);
                return 0;
            }), "nothing");
        }
    }

    /** What becomes of a version with one rule: 0, or ten times the reason and the item. */
    private static int judged(int kind, int value, Object... namesAndBytes) {
        Wire w = Wire.withSlot();
        w.link.rule(kind, value, true);
        w.hearVersion(0, 1, namesAndBytes);
        if (w.link.have(0, 1) == 2) {
            return 0;
        }
        DUE.is("rejected", w.link.have(0, 1), 3);
        DUE.is("is not released", w.link.release(0), 0);
        return (int) (10 * w.link.journal(0, 2) + w.link.journal(0, 3));
    }

    private static void eachKind() {
        DUE.is("a file of the most", judged(0, 4, "a", ONE, "b", TWO), 0);
        DUE.is("a file above it", judged(0, 3, "a", ONE, "b", TWO), 12);
        DUE.is("the first file above it", judged(0, 2, "a", ONE, "b", TWO), 11);
        DUE.is("empty ones alone", judged(0, 0, "a", NONE), 0);
        DUE.is("as many files as allowed", judged(1, 2, "a", ONE, "b", TWO), 0);
        DUE.is("one more", judged(1, 1, "a", ONE, "b", TWO), 20);
        DUE.is("none allowed, none there", judged(1, 0), 0);
        DUE.is("none allowed", judged(1, 0, "a", ONE), 20);
        DUE.is("a sign that no name has", judged(2, 'z', "a", ONE, "b", TWO), 0);
        DUE.is("a sign of the second name", judged(2, 'c', "a", ONE, "bc", TWO), 32);
        DUE.is("a sign of both names", judged(2, 'c', "ac", ONE, "bc", TWO), 31);
        DUE.is("a sign of the data alone", judged(2, 'o', "a", ONE, "b", TWO), 0);
        DUE.is("a first byte that no file has", judged(3, 'n', "a", ONE, "b", TWO), 0);
        DUE.is("a first byte", judged(3, 't', "a", ONE, "b", TWO), 42);
        DUE.is("empty ones pass", judged(3, 0, "a", NONE), 0);
        DUE.is("a first byte of 0", judged(3, 0, "a", NONE, "b", new byte[1]), 42);
        DUE.is("a first byte of 255", judged(3, 255, "a", Wire.filled(1, 255)), 41);
    }

    private static void offIsAny() {
        Wire w = Wire.withSlot();
        w.link.rule(0, 2, true);
        w.link.rule(0, 96, false);
        w.link.rule(1, 0, true);
        w.link.rule(1, 0, false);
        w.link.rule(2, 'a', true);
        w.link.rule(2, 'z', true);
        w.link.rule(2, 'a', false);
        w.link.rule(3, 'o', true);
        w.link.rule(3, 'o', false);
        w.hearVersion(0, 1, "a", ONE, "b", Wire.filled(96, 1));
        DUE.is("all is allowed again", w.link.have(0, 1), 2);
        w.link.rule(2, 'b', false);
        w.hearVersion(0, 2, "z", ONE);
        DUE.is("another sign is not", w.link.have(0, 2), 3);
        w.link.rule(0, 9, true);
        w.link.rule(0, 5, true);
        w.hearVersion(0, 3, "c", Wire.filled(6, 1));
        DUE.is("the latest value counts", w.link.have(0, 3), 3);
    }

    private static void firstByKindThenFile() {
        Wire w = Wire.withSlot();
        w.link.rule(3, 'o', true);
        w.link.rule(2, 'b', true);
        w.link.rule(1, 1, true);
        w.link.rule(0, 3, true);
        w.hearVersion(0, 1, "a", ONE, "b", TWO);
        w.link.rule(0, 3, false);
        w.hearItem(0, 2, 0, Wire.manifest(2, "a", ONE, "b", TWO));
        w.link.rule(1, 1, false);
        w.hearItem(0, 3, 0, Wire.manifest(3, "a", ONE, "b", TWO));
        w.link.rule(2, 'b', false);
        w.hearItem(0, 4, 0, Wire.manifest(4, "a", ONE, "b", TWO));
        int[][] wanted = {{1, 2}, {2, 0}, {3, 2}, {4, 1}};
        for (int k = 0; k < 4; k++) {
            DUE.is("folder of entry " + k, w.link.journal(k, 0), 0);
            DUE.is("version of entry " + k, w.link.journal(k, 1), k + 1);
            DUE.is("reason of entry " + k, w.link.journal(k, 2), wanted[k][0]);
            DUE.is("item of entry " + k, w.link.journal(k, 3), wanted[k][1]);
        }
    }

    private static void judgedOnceAsRulesAre() {
        Wire w = Wire.withSlot();
        w.hearVersion(0, 1, "a", ONE);
        w.link.rule(0, 0, true);
        DUE.is("a later rule does not reject", w.link.have(0, 1), 2);
        w.hearItem(0, 2, 0, Wire.manifest(2, "a", ONE));
        DUE.is("the next one is rejected", w.link.have(0, 2), 3);
        w.link.rule(0, 0, false);
        w.hearItem(0, 2, 1, ONE);
        DUE.is("and stays so", w.link.have(0, 2), 3);
        DUE.is("the one before is released", w.link.release(0), 1);
        w.hearItem(0, 3, 0, Wire.manifest(3, "z", ONE));
        DUE.is("a rejected one holds files for others", w.link.have(0, 3), 2);
    }

    private static void severalByOnePacket() {
        Wire w = Wire.withSlot();
        w.link.rule(1, 0, true);
        for (int version : new int[] {8, 6, 9, 7}) {
            w.hearItem(0, version, 0, Wire.manifest(version, "a", ONE));
        }
        DUE.is("none yet", w.link.journal(-1, 0), 0);
        w.hearItem(0, 8, 1, ONE);
        DUE.is("all four", w.link.journal(-1, 0), 4);
        for (int k = 0; k < 4; k++) {
            DUE.is("by rising numbers", w.link.journal(k, 1), 6 + k);
        }
    }
}
