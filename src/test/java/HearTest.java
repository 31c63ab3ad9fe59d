/** Promises 9, 11, 14 and 21: hear with its six reasons, restartReceiver, rank, count. */
public final class HearTest {
    private static final Due DUE = new Due("HearTest");
    private static final byte[] LONG = Wire.filled(64, 'x');

    public static void main(String[] args) {
        wrongHash();
        lives();
        cannotBe();
        belowTheKnown();
        otherSizeOrSolved();
        tellsNothingNew();
        sumsAreSolved();
        everyMixIsSolved();
        rowsGoForRoom();
        ownRowsGoForRoom();
        noRoom();
        aNewGreatestMakesRoom();
        restartReceiverLosesRows();
        rankAndCountRefuse();
        DUE.end();
    }

    private static byte[] piece(int life, int folder, int version, int item, byte[] bytes, int j) {
        return Wire.packetOf(life, folder, version, item, bytes, 0, j);
    }

    private static void wrongHash() {
        DiodeLink x = new DiodeLink();
        x.commit(0);
        x.commit(0);
        x.send();
        for (int i = 0; i < 24; i++) {
            x.alter(0, i, 1 << i % 8);
            DUE.is("hear with byte " + i + " turned", x.hear(0), 1);
            x.alter(0, i, 1 << i % 8);
        }
        DUE.is("dropped", x.count(0), 24);
        DUE.is("nothing heard", x.have(0, 2), 0);
        DUE.is("a greater life with a wrong hash is not noted", x.hear(0), 0);
    }

    private static void lives() {
        Wire w = Wire.withSlot();
        DUE.is("life 0, the first heard", w.hear(piece(0, 0, 1, 1, LONG, 0)), 0);
        DUE.is("a row", w.link.count(1), 1);
        DUE.is("life 5", w.hear(piece(5, 0, 1, 1, LONG, 1)), 0);
        DUE.is("its row alone", w.link.count(1), 1);
        DUE.is("life 4", w.hear(piece(4, 0, 1, 1, LONG, 2)), 2);
        DUE.is("life 5 again", w.hear(piece(5, 0, 1, 1, LONG, 0)), 0);
        DUE.is("rank", w.link.rank(0, 1, 1, 0), 2);
        DUE.is("life 6 of what cannot be", w.hear(piece(6, 2, 1, 1, LONG, 0)), 3);
        DUE.is("all rows are lost by it", w.link.count(1), 0);
        DUE.is("life 5 is below", w.hear(piece(5, 0, 1, 1, LONG, 0)), 2);
        DUE.is("the other reason comes first", w.hear(piece(5, 2, 0, 1, LONG, 0)), 2);
        DUE.is("a short item in life 6", w.hear(piece(6, 0, 1, 2, Wire.bytes("abc"), 0)), 0);
        DUE.is("is solved", w.link.rank(0, 1, 2, 0), 8);
        DUE.is("life 7 of the solved one", w.hear(piece(7, 0, 1, 2, Wire.bytes("abc"), 0)), 4);
        DUE.is("solved blocks stay", w.link.rank(0, 1, 2, 0), 8);
        DUE.is("life 255", w.hear(piece(255, 0, 1, 1, LONG, 3)), 0);
        DUE.is("dropped", w.link.count(0), 5);
    }

    private static void cannotBe() {
        Wire w = Wire.withSlot();
        DUE.is("folder 2", w.hear(Wire.packet(1, 2, 1, 1, 0, 0, 8, 0)), 3);
        DUE.is("folder 255", w.hear(Wire.packet(1, 255, 1, 1, 0, 0, 8, 0)), 3);
        DUE.is("version 0", w.hear(Wire.packet(1, 0, 0, 1, 0, 0, 8, 0)), 3);
        DUE.is("item 7", w.hear(Wire.packet(1, 0, 1, 7, 0, 0, 8, 0)), 3);
        DUE.is("size 105", w.hear(Wire.packet(1, 0, 1, 1, 0, 0, 105, 0)), 3);
        DUE.is("size 255", w.hear(Wire.packet(1, 0, 1, 1, 0, 0, 255, 0)), 3);
        DUE.is("block 1 of size 64", w.hear(Wire.packet(1, 0, 1, 1, 1, 0, 64, 0)), 3);
        DUE.is("block 2 of size 104", w.hear(Wire.packet(1, 0, 1, 1, 2, 0, 104, 0)), 3);
        DUE.is("j 2 of size 0", w.hear(Wire.packet(1, 0, 1, 1, 0, 2, 0, 0)), 3);
        DUE.is("j 2 of size 8", w.hear(Wire.packet(1, 0, 1, 1, 0, 2, 8, 0)), 3);
        DUE.is("j 16 of size 64", w.hear(Wire.packet(1, 0, 1, 1, 0, 16, 64, 0)), 3);
        DUE.is("j 10 of block 1 of size 104", w.hear(Wire.packet(1, 0, 1, 1, 1, 10, 104, 0)), 3);
        DUE.is("nothing heard", w.link.have(0, 1), 0);
        DUE.is("dropped", w.link.count(0), 12);
        DUE.is("j 9 of block 1 of size 104", w.hear(Wire.packet(1, 0, 1, 6, 1, 9, 104, 0)), 0);
        DUE.is("version 65535", w.hear(Wire.packet(1, 1, 65535, 6, 0, 15, 64, 0)), 0);
        DUE.is("partly there", w.link.have(1, 65535), 1);
        DUE.is("block 1 of size 65", w.hear(Wire.packet(1, 0, 1, 1, 1, 1, 65, 0)), 0);
        DUE.is("is solved by one", w.link.rank(0, 1, 1, 1), 8);
        DUE.is("block 0 is not", w.link.rank(0, 1, 1, 0), 0);
    }

    private static void belowTheKnown() {
        Wire w = Wire.withSlot();
        for (int version : new int[] {7, 3, 9, 5}) {
            DUE.is("version " + version, w.hear(piece(1, 0, version, 1, LONG, 0)), 0);
        }
        DUE.is("below the four", w.hear(piece(1, 0, 2, 1, LONG, 0)), 3);
        DUE.is("the other folder has its own four", w.hear(piece(1, 1, 2, 1, LONG, 0)), 0);
        DUE.is("the least of the four", w.hear(piece(1, 0, 3, 1, LONG, 1)), 0);
        DUE.is("rows", w.link.count(1), 6);
        DUE.is("a fifth one between", w.hear(piece(1, 0, 4, 1, LONG, 0)), 0);
        DUE.is("the least is forgotten", w.link.have(0, 3), 0);
        DUE.is("its rows go", w.link.count(1), 5);
        DUE.is("rank of a forgotten one", w.link.rank(0, 3, 1, 0), 0);
        DUE.is("it cannot come again", w.hear(piece(1, 0, 3, 1, LONG, 0)), 3);
        DUE.is("the others stay", w.link.have(0, 5) + w.link.have(0, 7) + w.link.have(0, 9), 3);
    }

    private static void otherSizeOrSolved() {
        Wire w = Wire.withSlot();
        DUE.is("a row of size 64", w.hear(piece(1, 0, 1, 1, LONG, 0)), 0);
        DUE.is("size 63, while there is a row", w.hear(piece(1, 0, 1, 1, Wire.filled(63, 1), 1)), 4);
        DUE.is("another item", w.hear(piece(1, 0, 1, 2, Wire.filled(63, 1), 1)), 0);
        DUE.is("another version", w.hear(piece(1, 0, 2, 1, Wire.filled(63, 1), 1)), 0);
        w.link.restartReceiver();
        DUE.is("size 72, when there is no row", w.hear(Wire.packetOf(1, 0, 1, 1, Wire.filled(72, 1), 1, 0)), 0);
        DUE.is("block 1 is solved", w.link.rank(0, 1, 1, 1), 8);
        w.link.restartReceiver();
        DUE.is("size 64, while a block is solved", w.hear(piece(1, 0, 1, 1, LONG, 0)), 4);
        DUE.is("the solved block again", w.hear(Wire.packetOf(1, 0, 1, 1, Wire.filled(72, 1), 1, 1)), 4);
        DUE.is("the other block", w.hear(Wire.packetOf(1, 0, 1, 1, Wire.filled(72, 1), 0, 1)), 0);
        DUE.is("dropped", w.link.count(0), 3);
    }

    private static void tellsNothingNew() {
        Wire w = Wire.withSlot();
        byte[] bytes = Wire.bytes("abcdefghijklmnopqrstuvwx");
        DUE.is("piece 0", w.hear(piece(1, 0, 1, 1, bytes, 0)), 0);
        DUE.is("piece 0 again", w.hear(piece(1, 0, 1, 1, bytes, 0)), 5);
        DUE.is("piece 0 with other bytes", w.hear(Wire.packet(1, 0, 1, 1, 0, 0, 24, 77)), 5);
        DUE.is("piece 1", w.hear(piece(1, 0, 1, 1, bytes, 1)), 0);
        for (int j = 3; j < 6; j++) {
            int mask = Wire.mask(1, 1, 0, j, 3);
            boolean known = (mask & 4) == 0;
            if (known) {
                DUE.is("a sum of pieces 0 and 1", w.hear(piece(1, 0, 1, 1, bytes, j)), 5);
            }
        }
        DUE.is("rows", w.link.rank(0, 1, 1, 0), 2);
        DUE.is("piece 0 of the other folder", w.hear(piece(1, 1, 1, 1, bytes, 0)), 0);
        DUE.is("piece 2", w.hear(piece(1, 0, 1, 1, bytes, 2)), 0);
        DUE.is("solved", w.link.rank(0, 1, 1, 0), 8);
        DUE.is("its rows went", w.link.count(1), 1);
        DUE.is("behind it", w.hear(piece(1, 0, 1, 1, bytes, 0)), 4);
    }

    /** Sums alone, without a plain piece, where the masks can be solved. */
    private static void sumsAreSolved() {
        byte[] bytes = Wire.bytes("The quick brown fox jumps over the lazy dog, then rests.");
        int n = Wire.pieces(bytes.length, 0);
        int solved = 0;
        for (int version = 1; version <= 12; version++) {
            Wire w = Wire.withSlot();
            w.hearItem(0, version, 0, Wire.manifest(version, "f", bytes));
            for (int j = 2 * n - 1; j >= 0; j--) {
                w.hear(piece(1, 0, version, 1, bytes, j));
            }
            DUE.is("all packets, the last ones first", w.link.have(0, version), 2);
            DUE.is("release", w.link.release(0), version);
            for (int i = 0; i < bytes.length; i++) {
                solved += w.link.file(0, 0, i, true) == bytes[i] ? 1 : 0;
            }
        }
        DUE.is("bytes as they were", solved, 12 * bytes.length);
    }

    /** For each size: hears packets in a mixed order until the block is solved, the rank counting. */
    private static void everyMixIsSolved() {
        for (int size = 0; size <= 64; size += 4) {
            byte[] bytes = new byte[size];
            for (int i = 0; i < size; i++) {
                bytes[i] = (byte) (i * 11 + 3);
            }
            Wire w = Wire.withSlot();
            int n = Wire.pieces(size, 0);
            java.util.Set<Integer> sums = new java.util.HashSet<>(java.util.Set.of(0));
            int rank = 0;
            for (int t = 0; t < 2 * n; t++) {
                int j = (t * (2 * n - 1) + n) % (2 * n);
                int mask = Wire.mask(3, 2, 0, j, n);
                int want = rank == n ? 4 : sums.contains(mask) ? 5 : 0;
                DUE.is("size " + size + ", packet " + j, w.hear(piece(1, 1, 3, 2, bytes, j)), want);
                if (want == 0) {
                    rank++;
                    for (int sum : java.util.List.copyOf(sums)) {
                        sums.add(sum ^ mask);
                    }
                }
                DUE.is("rank", w.link.rank(1, 3, 2, 0), rank == n ? 8 : rank);
                DUE.is("rows", w.link.count(1), rank == n ? 0 : rank);
            }
        }
    }

    private static void hearRows(Wire w, int folder, int version, int item, int rows) {
        for (int j = 0; j < rows; j++) {
            DUE.is("a row of " + folder + " " + version + " " + item, w.hear(piece(1, folder, version, item, LONG, j)), 0);
        }
    }

    private static void rowsGoForRoom() {
        Wire w = Wire.withSlot();
        hearRows(w, 1, 2, 1, 6);
        hearRows(w, 0, 2, 1, 6);
        hearRows(w, 0, 3, 1, 6);
        hearRows(w, 1, 5, 1, 6);
        DUE.is("rows", w.link.count(1), 24);
        DUE.is("what tells nothing new needs no room", w.hear(piece(1, 1, 5, 1, LONG, 0)), 5);
        DUE.is("rows still", w.link.count(1), 24);
        DUE.is("one more", w.hear(piece(1, 1, 5, 1, LONG, 6)), 0);
        DUE.is("folder 0 first of the same numbers", w.link.rank(0, 2, 1, 0), 0);
        DUE.is("it is known still", w.link.have(0, 2), 1);
        DUE.is("the other one has its rows", w.link.rank(1, 2, 1, 0), 6);
        DUE.is("rows then", w.link.count(1), 19);
        hearRows(w, 0, 3, 2, 5);
        DUE.is("one more again", w.hear(piece(1, 0, 3, 3, LONG, 0)), 0);
        DUE.is("then folder 1", w.link.rank(1, 2, 1, 0), 0);
        DUE.is("the greatest of folder 0 stays", w.link.rank(0, 3, 1, 0), 6);
        DUE.is("the greatest of folder 1 stays", w.link.rank(1, 5, 1, 0), 7);
        DUE.is("rows at last", w.link.count(1), 19);
    }

    private static void ownRowsGoForRoom() {
        Wire w = Wire.withSlot();
        DUE.is("a greater one without rows", w.hear(Wire.packetOf(1, 0, 9, 1, Wire.bytes("x"), 0, 0)), 0);
        hearRows(w, 0, 4, 1, 7);
        hearRows(w, 0, 4, 2, 7);
        hearRows(w, 0, 4, 3, 7);
        hearRows(w, 0, 4, 4, 3);
        DUE.is("the row that would solve a block", w.hear(piece(1, 0, 4, 1, LONG, 7)), 0);
        DUE.is("is the only one then", w.link.count(1), 1);
        DUE.is("rank", w.link.rank(0, 4, 1, 0), 1);
        DUE.is("the others went", w.link.rank(0, 4, 2, 0), 0);
    }

    private static void noRoom() {
        Wire w = Wire.withSlot();
        hearRows(w, 0, 4, 1, 7);
        hearRows(w, 0, 4, 2, 7);
        hearRows(w, 1, 4, 1, 7);
        hearRows(w, 1, 4, 2, 3);
        DUE.is("all rows are of greatest ones", w.hear(piece(1, 0, 4, 3, LONG, 0)), 6);
        DUE.is("the row that would solve a block", w.hear(piece(1, 0, 4, 1, LONG, 7)), 6);
        DUE.is("what is solved by one", w.hear(piece(1, 0, 4, 4, Wire.bytes("x"), 0)), 6);
        DUE.is("a lesser version", w.hear(piece(1, 0, 3, 1, LONG, 0)), 6);
        DUE.is("it is heard by it", w.link.have(0, 3), 1);
        DUE.is("it has nothing", w.link.rank(0, 3, 1, 0), 0);
        DUE.is("rows", w.link.count(1), 24);
        DUE.is("dropped", w.link.count(0), 4);
        DUE.is("another size comes before no room", w.hear(piece(1, 0, 4, 1, Wire.filled(60, 1), 7)), 4);
        DUE.is("nothing new comes before no room", w.hear(piece(1, 0, 4, 1, LONG, 6)), 5);
    }

    private static void aNewGreatestMakesRoom() {
        Wire w = Wire.withSlot();
        hearRows(w, 0, 4, 1, 7);
        hearRows(w, 0, 4, 2, 7);
        hearRows(w, 0, 4, 3, 7);
        hearRows(w, 0, 4, 4, 3);
        DUE.is("a greater version", w.hear(piece(1, 0, 5, 1, LONG, 0)), 0);
        DUE.is("the rows of the lesser one went", w.link.count(1), 1);
        DUE.is("it is known still", w.link.have(0, 4), 1);
    }

    private static void restartReceiverLosesRows() {
        Wire w = Wire.withSlot();
        hearRows(w, 0, 4, 1, 7);
        w.hear(Wire.packetOf(9, 0, 4, 2, Wire.bytes("x"), 0, 0));
        w.hear(piece(9, 0, 4, 1, LONG, 0));
        w.link.restartReceiver();
        DUE.is("no rows", w.link.count(1), 0);
        DUE.is("rank", w.link.rank(0, 4, 1, 0), 0);
        DUE.is("solved blocks stay", w.link.rank(0, 4, 2, 0), 8);
        DUE.is("versions stay", w.link.have(0, 4), 1);
        DUE.is("the greatest life stays", w.hear(piece(8, 0, 4, 1, LONG, 0)), 2);
        DUE.is("dropped stays", w.link.count(0), 1);
    }

    private static void rankAndCountRefuse() {
        DiodeLink x = new DiodeLink();
        int[][] wrong = {{-1, 1, 0, 0}, {2, 1, 0, 0}, {0, 0, 0, 0}, {0, 65536, 0, 0}, {0, -1, 0, 0},
            {0, 1, -1, 0}, {0, 1, 7, 0}, {0, 1, 0, -1}, {0, 1, 0, 2}, {1, Integer.MIN_VALUE, 0, 0}};
        for (int[] a : wrong) {
            DUE.refusesArgument("rank of " + java.util.Arrays.toString(a), () -> x.rank(a[0], a[1], a[2], a[3]));
        }
        DUE.is("rank of the last of all", x.rank(1, 65535, 6, 1), 0);
        for (int what : new int[] {-1, 3, Integer.MAX_VALUE}) {
            DUE.refusesArgument("count(" + what + ")", () -> x.count(what));
        }
    }
}
