/** Promise 12: rule, and how versions are judged. */
public final class RuleTest {
    private static final Due DUE = new Due("RuleTest");
    private static final byte[] ONE = Wire.bytes("one");
    private static final byte[] TWO = Wire.bytes("two!");
    private static final byte[] NONE = new byte[0];

    public static void main(String[] args) {
        refuses();
        takesTheEdges();
        refusedRulesChangeNothing();
        mostBytes();
        mostFiles();
        signs();
        firstBytes();
        offIsAny();
        offIsAllowedAgain();
        theLatestValueCounts();
        firstByKinds();
        thenByFiles();
        judgedOnce();
        judgedByRulesAsTheyAre();
        severalByOnePacket();
        bothFolders();
        DUE.end();
    }

    // ---- promise 12

    private static void refuses() {
        DUE.says("IllegalArgumentException: it is not so.");
        DiodeLink x = new DiodeLink();
        int[][] wrong = {{-1, 0}, {4, 0}, {5, 1}, {Integer.MIN_VALUE, 0}, {Integer.MAX_VALUE, 0}, {0, -1}, {0, 97},
            {0, 255}, {1, -1}, {1, 7}, {1, 96}, {2, -1}, {2, 256}, {2, Integer.MAX_VALUE}, {3, -1}, {3, 256},
            {3, Integer.MIN_VALUE}};
        for (int[] a : wrong) {
            for (boolean on : new boolean[] {true, false}) {
                DUE.refusesArgument("rule(" + a[0] + ", " + a[1] + ", " + on + ")",
                    Due.answering(() -> x.rule(a[0], a[1], on)));
            }
        }
    }

    private static void takesTheEdges() {
        DUE.says("Sets a rule: kind 0 (0 .. 96), 1 (0 .. 6): the most (on; off: any); 2, 3 (0 .. 255)");
        DiodeLink x = new DiodeLink();
        int[][] right = {{0, 0}, {0, 1}, {0, 95}, {0, 96}, {1, 0}, {1, 1}, {1, 5}, {1, 6}, {2, 0}, {2, 32}, {2, 127},
            {2, 255}, {3, 0}, {3, 128}, {3, 255}};
        for (int[] a : right) {
            for (boolean on : new boolean[] {true, false}) {
                DUE.allows("rule(" + a[0] + ", " + a[1] + ", " + on + ")", () -> x.rule(a[0], a[1], on));
            }
        }
    }

    private static void refusedRulesChangeNothing() {
        DUE.says("IllegalArgumentException: it is not so.");
        Wire w = Wire.withSlot();
        w.link.rule(0, 3, true);
        w.link.rule(1, 1, true);
        int[][] wrong = {{0, 97}, {0, -1}, {1, 7}, {1, -1}};
        for (int[] a : wrong) {
            DUE.refusesArgument("rule(" + a[0] + ", " + a[1] + ", false)",
                Due.answering(() -> w.link.rule(a[0], a[1], false)));
        }
        int[][] signs = {{2, 'a' + 256}, {3, 'o' + 256}, {2, 'a' - 256}, {3, 'o' - 256}};
        for (int[] a : signs) {
            DUE.refusesArgument("rule(" + a[0] + ", " + a[1] + ", true)",
                Due.answering(() -> w.link.rule(a[0], a[1], true)));
        }
        w.hearVersion(0, 1, "a", ONE);
        DUE.is("no other rule came", w.link.have(0, 1), 2);
        w.hearVersion(0, 2, "a", TWO);
        DUE.is("rule 0 stands", w.link.have(0, 2), 3);
        w.hearVersion(0, 3, "a", NONE, "b", NONE);
        DUE.is("rule 1 stands", w.link.have(0, 3), 3);
    }

    /** What becomes of a version with one rule: 0, or ten times the reason and the item. */
    private static int judged(int kind, int value, Object... namesAndBytes) {
        Wire w = Wire.withSlot();
        w.link.rule(kind, value, true);
        w.hearVersion(0, 1, namesAndBytes);
        if (w.link.have(0, 1) == 2) {
            return 0;
        }
        DUE.is("rejected", w.link.have(0, 1), 3);
        DUE.is("is not released", w.link.release(0), 0);
        return (int) (10 * w.link.journal(0, 2) + w.link.journal(0, 3));
    }

    private static void mostBytes() {
        DUE.says("0 a file above a size");
        DUE.is("a file of the most", judged(0, 4, "a", ONE, "b", TWO), 0);
        DUE.is("a file above it", judged(0, 3, "a", ONE, "b", TWO), 12);
        DUE.is("the first file above it", judged(0, 2, "a", ONE, "b", TWO), 11);
        DUE.is("empty ones alone", judged(0, 0, "a", NONE), 0);
        DUE.is("one byte", judged(0, 0, "a", NONE, "b", NONE, "c", Wire.filled(1, 0)), 13);
        DUE.is("96 of 96", judged(0, 96, "a", Wire.filled(96, 1)), 0);
        DUE.is("96 of 95", judged(0, 95, "a", Wire.filled(95, 1), "b", Wire.filled(96, 1)), 12);
        DUE.is("no file at all", judged(0, 0), 0);
    }

    private static void mostFiles() {
        DUE.says("1 more files than");
        DUE.is("as many files as allowed", judged(1, 2, "a", ONE, "b", TWO), 0);
        DUE.is("one more", judged(1, 1, "a", ONE, "b", TWO), 20);
        DUE.is("none allowed, none there", judged(1, 0), 0);
        DUE.is("none allowed", judged(1, 0, "a", ONE), 20);
        Object[] six = {"a", ONE, "b", ONE, "c", ONE, "d", ONE, "e", ONE, "f", ONE};
        DUE.is("six of six", judged(1, 6, six), 0);
        DUE.is("six of five", judged(1, 5, six), 20);
    }

    private static void signs() {
        DUE.says("2 a sign in a name that is not allowed");
        DUE.is("a sign that no name has", judged(2, 'z', "a", ONE, "b", TWO), 0);
        DUE.is("a sign of the second name", judged(2, 'c', "a", ONE, "bc", TWO), 32);
        DUE.is("a sign of both names", judged(2, 'c', "ac", ONE, "bc", TWO), 31);
        DUE.is("a sign of the data alone", judged(2, 'o', "a", ONE, "b", TWO), 0);
        DUE.is("the last sign of a name", judged(2, '~', "abcdef", ONE, "abcde~", TWO), 32);
        DUE.is("the first sign of a name", judged(2, '!', "!bcdef", ONE, "abcde~", TWO), 31);
        DUE.is("the number of a name's length", judged(2, 2, "ab", ONE), 0);
        DUE.is("the number of a file's size", judged(2, 33, "a", Wire.filled(33, 'x')), 0);
        DUE.is("a sign of 0", judged(2, 0, "a", NONE), 0);
        DUE.is("a sign of 255", judged(2, 255, "a", Wire.filled(1, 255)), 0);
    }

    private static void firstBytes() {
        DUE.says("3 a first byte of a file that is not allowed (empty ones pass)");
        DUE.is("a first byte that no file has", judged(3, 'n', "a", ONE, "b", TWO), 0);
        DUE.is("a first byte", judged(3, 't', "a", ONE, "b", TWO), 42);
        DUE.is("a first byte of both", judged(3, 'o', "a", ONE, "b", ONE), 41);
        DUE.is("a name's sign", judged(3, 'a', "a", ONE), 0);
        DUE.is("empty ones pass", judged(3, 0, "a", NONE), 0);
        DUE.is("a first byte of 0", judged(3, 0, "a", NONE, "b", new byte[1]), 42);
        DUE.is("a first byte of 128", judged(3, 128, "a", Wire.filled(1, 128)), 41);
        DUE.is("a first byte of 255", judged(3, 255, "a", Wire.filled(96, 255)), 41);
        DUE.is("a first byte of 127", judged(3, 127, "a", Wire.filled(1, 255)), 0);
    }

    private static void offIsAny() {
        DUE.says("the most (on; off: any)");
        Wire w = Wire.withSlot();
        w.link.rule(0, 2, true);
        w.link.rule(0, 96, false);
        w.link.rule(1, 0, true);
        w.link.rule(1, 0, false);
        w.hearVersion(0, 1, "a", ONE, "b", Wire.filled(96, 1));
        DUE.is("any size, any number", w.link.have(0, 1), 2);
        w.link.rule(0, 2, true);
        w.link.rule(0, 0, false);
        w.hearItem(0, 2, 0, Wire.manifest(2, "a", ONE));
        DUE.is("off with another value", w.link.have(0, 2), 2);
        w.link.rule(0, 5, false);
        w.link.rule(1, 1, false);
        w.hearItem(0, 3, 0, Wire.manifest(3, "a", ONE, "b", Wire.filled(96, 1)));
        DUE.is("off sets no most", w.link.have(0, 3), 2);
    }

    private static void offIsAllowedAgain() {
        DUE.says("a sign or first byte is not allowed (on), or is");
        Wire w = Wire.withSlot();
        w.link.rule(2, 'a', true);
        w.link.rule(2, 'a', true);
        w.link.rule(2, 'z', true);
        w.link.rule(2, 'a', false);
        w.link.rule(3, 'o', true);
        w.link.rule(3, 't', true);
        w.link.rule(3, 'o', false);
        w.hearVersion(0, 1, "a", ONE);
        DUE.is("both are allowed again", w.link.have(0, 1), 2);
        w.link.rule(2, 'b', false);
        w.hearVersion(0, 2, "z", ONE);
        DUE.is("another sign is not", w.link.have(0, 2), 3);
        w.hearVersion(0, 3, "a", TWO);
        DUE.is("another first byte is not", w.link.have(0, 3), 3);
        w.link.rule(2, 't', true);
        w.link.rule(3, 't', false);
        w.hearItem(0, 4, 0, Wire.manifest(4, "a", TWO));
        DUE.is("signs and first bytes are apart", w.link.have(0, 4), 2);
    }

    private static void theLatestValueCounts() {
        DUE.says("Sets a rule: kind 0 (0 .. 96), 1 (0 .. 6): the most");
        Wire w = Wire.withSlot();
        w.link.rule(0, 5, true);
        w.link.rule(0, 9, true);
        w.link.rule(1, 0, true);
        w.link.rule(1, 1, true);
        w.hearVersion(0, 1, "c", Wire.filled(6, 1));
        DUE.is("a greater value", w.link.have(0, 1), 2);
        w.link.rule(0, 5, true);
        w.hearItem(0, 2, 0, Wire.manifest(2, "c", Wire.filled(6, 1)));
        DUE.is("a lesser value", w.link.have(0, 2), 3);
    }

    // ---- how versions are judged

    private static void isEntry(Wire w, int k, int version, int reason, int item) {
        DUE.is("folder of entry " + k, w.link.journal(k, 0), 0);
        DUE.is("version of entry " + k, w.link.journal(k, 1), version);
        DUE.is("reason of entry " + k, w.link.journal(k, 2), reason);
        DUE.is("item of entry " + k, w.link.journal(k, 3), item);
    }

    private static void firstByKinds() {
        DUE.says("The first rule (by kinds, then files) that is broken REJECTS it.");
        Wire w = Wire.withSlot();
        w.link.rule(3, 'o', true);
        w.link.rule(2, 'b', true);
        w.link.rule(1, 1, true);
        w.link.rule(0, 3, true);
        w.hearVersion(0, 1, "a", ONE, "b", TWO);
        w.link.rule(0, 3, false);
        w.hearItem(0, 2, 0, Wire.manifest(2, "a", ONE, "b", TWO));
        w.link.rule(1, 1, false);
        w.hearItem(0, 3, 0, Wire.manifest(3, "a", ONE, "b", TWO));
        w.link.rule(2, 'b', false);
        w.hearItem(0, 4, 0, Wire.manifest(4, "a", ONE, "b", TWO));
        int[][] wanted = {{1, 2}, {2, 0}, {3, 2}, {4, 1}};
        for (int k = 0; k < 4; k++) {
            isEntry(w, k, k + 1, wanted[k][0], wanted[k][1]);
        }
        DUE.is("one entry each", w.link.journal(-1, 0), 4);
    }

    private static void thenByFiles() {
        DUE.says("The first rule (by kinds, then files) that is broken REJECTS it.");
        Wire w = Wire.withSlot();
        w.link.rule(2, 'z', true);
        w.link.rule(2, 'b', true);
        w.hearVersion(0, 1, "a", ONE, "bz", ONE, "c", ONE, "z", ONE);
        isEntry(w, 0, 1, 3, 2);
        w.link.rule(2, 'b', false);
        w.hearItem(0, 2, 0, Wire.manifest(2, "a", ONE, "b", ONE, "c", ONE, "z", ONE));
        isEntry(w, 1, 2, 3, 4);
    }

    private static void judgedOnce() {
        DUE.says("Then it is judged (several by one packet by rising numbers), once");
        Wire w = Wire.withSlot();
        w.hearVersion(0, 1, "a", ONE);
        w.link.rule(0, 0, true);
        DUE.is("a later rule does not reject", w.link.have(0, 1), 2);
        w.hearItem(0, 1, 1, ONE);
        w.hearItem(0, 1, 2, ONE);
        DUE.is("nor with later packets", w.link.have(0, 1), 2);
        w.hearItem(0, 2, 0, Wire.manifest(2, "a", ONE));
        DUE.is("the next one is rejected", w.link.have(0, 2), 3);
        w.link.rule(0, 0, false);
        w.hearItem(0, 2, 1, ONE);
        w.hearItem(0, 3, 0, Wire.manifest(3, "z", ONE));
        DUE.is("and stays so", w.link.have(0, 2), 3);
        DUE.is("one entry", w.link.journal(-1, 0), 1);
        DUE.is("another one is whole", w.link.have(0, 3), 2);
        w.link.rule(0, 0, true);
        DUE.is("it is released, whatever the rules are then", w.link.release(0), 3);
    }

    private static void judgedByRulesAsTheyAre() {
        DUE.says("by the RULES as they are");
        Wire w = Wire.withSlot();
        w.link.rule(0, 0, true);
        w.hearItem(0, 1, 0, Wire.manifest(1, "a", ONE));
        w.hearItem(0, 2, 0, Wire.manifest(2, "a", TWO));
        DUE.is("not before it is whole", w.link.journal(-1, 0), 0);
        w.link.rule(0, 3, true);
        w.hearItem(0, 1, 1, ONE);
        w.hearItem(0, 2, 1, TWO);
        DUE.is("a rule that was changed before", w.link.have(0, 1), 2);
        DUE.is("and holds now", w.link.have(0, 2), 3);
    }

    private static void severalByOnePacket() {
        DUE.says("(several by one packet by rising numbers)");
        Wire w = Wire.withSlot();
        w.link.rule(1, 0, true);
        for (int version : new int[] {8, 6, 9, 7}) {
            w.hearItem(0, version, 0, Wire.manifest(version, "a", ONE));
        }
        DUE.is("none yet", w.link.journal(-1, 0), 0);
        w.hearItem(0, 8, 1, ONE);
        DUE.is("all four", w.link.journal(-1, 0), 4);
        for (int k = 0; k < 4; k++) {
            DUE.is("by rising numbers", w.link.journal(k, 1), 6 + k);
        }
    }

    private static void bothFolders() {
        DUE.says("THE JOURNAL has an entry for each version that is rejected or released");
        Wire w = Wire.withSlot();
        w.link.rule(1, 0, true);
        w.hearVersion(1, 7, "a", ONE);
        w.hearVersion(0, 7, "a", ONE);
        DUE.is("folder 1 first", w.link.journal(0, 0), 1);
        DUE.is("then folder 0", w.link.journal(1, 0), 0);
        DUE.is("rejected", w.link.have(0, 7) + w.link.have(1, 7), 6);
    }
}
