import java.util.HashSet;
import java.util.List;
import java.util.Set;

/** Promises 9, 11, 14 and 21: hear with its six reasons, restartReceiver, rank, count. */
public final class HearTest {
    private static final Due DUE = new Due("HearTest");
    private static final byte[] LONG = Wire.filled(64, 'x');
    private static final byte[] SHORT = Wire.bytes("abc");

    public static void main(String[] args) {
        hearRefuses();
        asOftenAsYouLike();
        wrongHash();
        lifeBelow();
        lifeThatIsGreater();
        lifesAtTheEdges();
        folderAboveOne();
        versionZero();
        itemAboveSix();
        sizeAbove104();
        blocksAndJ();
        belowTheKnown();
        belowWhenThereAreNotFour();
        otherSize();
        otherSizeIsForgotten();
        solvedBlock();
        tellsNothingNew();
        tellsASumOfRows();
        firstReasonThatHolds();
        droppedChangesNothing();
        sumsAreSolved();
        secondBlocksAreSolved();
        blocksAreSolvedApart();
        everyMixIsSolved();
        whatIsBehindTheSizeIsLeftOut();
        rowsUpTo24();
        rowsOfTheLeastGo();
        oneRowGoes();
        rowsOfTheNextStay();
        rowsOfFolderZeroGoFirst();
        ownRowsGo();
        rowsOfAllItemsGo();
        noRoom();
        aNewGreatestMakesRoom();
        aFifthMakesRoom();
        heardWithoutARow();
        restartReceiverLosesRows();
        lostRowsComeAgain();
        rankTells();
        rankRefuses();
        countTells();
        countRefuses();
        DUE.end();
    }

    private static byte[] piece(int life, int folder, int version, int item, byte[] bytes, int j) {
        return Wire.packetOf(life, folder, version, item, bytes, 0, j);
    }

    private static void hearRows(Wire w, int folder, int version, int item, int rows) {
        for (int j = 0; j < rows; j++) {
            int answer = w.hear(piece(1, folder, version, item, LONG, j));
            DUE.is("a row of " + folder + " " + version + " " + item, answer, 0);
        }
    }

    // ---- promise 9

    private static void hearRefuses() {
        DUE.says("The receiver hears a slot: 0, or why it was dropped. IllegalArgumentException: no such slot, or it "
            + "has nothing.");
        DiodeLink x = new DiodeLink();
        DUE.refusesArgument("slot 0 of a new object", () -> x.hear(0));
        x.commit(0);
        DUE.refusesArgument("slot 0, nothing was sent", () -> x.hear(0));
        x.send();
        for (int slot : new int[] {-1, 1, 2, 30, 31, 32, 33, 64, Integer.MIN_VALUE, Integer.MAX_VALUE}) {
            DUE.refusesArgument("slot " + slot, () -> x.hear(slot));
        }
        DUE.is("it is not counted", x.count(0), 0);
        DUE.is("nothing was heard", x.have(0, 1), 0);
        DUE.is("slot 0", x.hear(0), 0);
        for (int s = 1; s < 32; s++) {
            DUE.is("the next slot", x.send(), s);
        }
        DUE.is("slot 31", x.hear(31), 4);
    }

    private static void asOftenAsYouLike() {
        DUE.says("THE RECEIVER hears what a slot has, as often as you like. DROPPED (counted) is a packet:");
        Wire w = Wire.withSlot();
        DUE.is("once", w.hear(piece(1, 0, 1, 1, LONG, 0)), 0);
        for (int k = 1; k <= 40; k++) {
            DUE.is("again", w.link.hear(0), 5);
            DUE.is("dropped", w.link.count(0), k);
        }
        w.link.restartReceiver();
        DUE.is("once more", w.link.hear(0), 0);
    }

    // ---- reasons 1 and 2

    private static void wrongHash() {
        DUE.says("1 with a wrong hash");
        DiodeLink x = new DiodeLink();
        x.commit(0);
        x.commit(0);
        x.send();
        for (int i = 0; i < 24; i++) {
            x.alter(0, i, 1 << i % 8);
            DUE.is("hear with byte " + i + " turned", x.hear(0), 1);
            x.alter(0, i, 1 << i % 8);
        }
        DUE.is("dropped", x.count(0), 24);
        DUE.is("nothing heard", x.have(0, 2), 0);
        DUE.is("a greater life with a wrong hash is not noted", x.hear(0), 0);
    }

    private static void lifeBelow() {
        DUE.says("2 of a life below the greatest one heard");
        Wire w = Wire.withSlot();
        DUE.is("life 5", w.hear(piece(5, 0, 1, 1, LONG, 0)), 0);
        for (int life : new int[] {4, 1, 0}) {
            DUE.is("life " + life, w.hear(piece(life, 0, 1, 1, LONG, 1)), 2);
            DUE.is("life " + life + " in the other folder", w.hear(piece(life, 1, 9, 1, LONG, 1)), 2);
        }
        DUE.is("of the other folder nothing is heard", w.link.have(1, 9), 0);
        DUE.is("life 5 again", w.hear(piece(5, 0, 1, 1, LONG, 1)), 0);
        DUE.is("rank", w.link.rank(0, 1, 1, 0), 2);
        DUE.is("dropped", w.link.count(0), 6);
    }

    private static void lifeThatIsGreater() {
        DUE.says("behind 1 a greater life is noted, and then all rows of unsolved blocks are lost, whatever becomes of "
            + "the packet");
        Wire w = Wire.withSlot();
        hearRows(w, 0, 1, 1, 3);
        hearRows(w, 1, 4, 2, 3);
        w.hear(piece(1, 0, 1, 2, SHORT, 0));
        byte[] wrong = piece(2, 0, 1, 1, LONG, 0);
        wrong[20] ^= 1;
        DUE.is("life 2 with a wrong hash", w.hear(wrong), 1);
        DUE.is("no row is lost", w.link.count(1), 6);
        DUE.is("life 2, kept", w.hear(piece(2, 0, 1, 1, LONG, 5)), 0);
        DUE.is("its row alone", w.link.count(1), 1);
        DUE.is("rank", w.link.rank(0, 1, 1, 0), 1);
        DUE.is("solved blocks stay", w.link.rank(0, 1, 2, 0), 8);
        DUE.is("versions stay", w.link.have(1, 4), 1);
        DUE.is("life 3, cannot be", w.hear(piece(3, 2, 1, 1, LONG, 0)), 3);
        DUE.is("the rows are lost", w.link.count(1), 0);
        DUE.is("it is noted", w.hear(piece(2, 0, 1, 1, LONG, 5)), 2);
        w.hear(piece(3, 0, 1, 1, LONG, 5));
        DUE.is("life 4, is solved", w.hear(piece(4, 0, 1, 2, SHORT, 0)), 4);
        DUE.is("the rows are lost again", w.link.count(1), 0);
        DUE.is("it is noted again", w.hear(piece(3, 0, 1, 1, LONG, 5)), 2);
        w.hear(piece(4, 0, 1, 1, LONG, 5));
        DUE.is("life 5, a row that was there", w.hear(piece(5, 0, 1, 1, LONG, 5)), 0);
        DUE.is("is there again", w.link.count(1), 1);
        DUE.is("life 6, another size than the rows had", w.hear(piece(6, 0, 1, 1, Wire.filled(60, 1), 5)), 0);
        DUE.is("the same life loses nothing", w.hear(piece(6, 0, 1, 1, Wire.filled(60, 1), 4)), 0);
        DUE.is("rows", w.link.count(1), 2);
    }

    private static void lifesAtTheEdges() {
        DUE.says("2 of a life below the greatest one heard");
        Wire w = Wire.withSlot();
        DUE.is("life 0, the first heard", w.hear(piece(0, 0, 1, 1, LONG, 0)), 0);
        DUE.is("life 0 again", w.hear(piece(0, 0, 1, 1, LONG, 1)), 0);
        DUE.is("life 255", w.hear(piece(255, 0, 1, 1, LONG, 3)), 0);
        DUE.is("life 254", w.hear(piece(254, 0, 1, 1, LONG, 4)), 2);
        DUE.is("life 0 at last", w.hear(piece(0, 0, 1, 1, LONG, 4)), 2);
        DUE.is("life 255 again", w.hear(piece(255, 0, 1, 1, LONG, 4)), 0);
        DUE.is("rows", w.link.count(1), 2);
    }

    // ---- reason 3

    private static void folderAboveOne() {
        DUE.says("folder above 1");
        Wire w = Wire.withSlot();
        for (int folder : new int[] {2, 3, 127, 128, 254, 255}) {
            DUE.is("folder " + folder, w.hear(Wire.packet(1, folder, 1, 1, 0, 0, 64, 0)), 3);
        }
        DUE.is("dropped", w.link.count(0), 6);
        DUE.is("nothing heard", w.link.have(0, 1) + w.link.have(1, 1), 0);
        DUE.is("folder 1", w.hear(Wire.packet(1, 1, 1, 1, 0, 0, 64, 0)), 0);
        DUE.is("is heard", w.link.have(1, 1), 1);
        DUE.is("folder 0", w.hear(Wire.packet(1, 0, 1, 1, 0, 0, 64, 0)), 0);
        DUE.is("is heard, too", w.link.have(0, 1), 1);
    }

    private static void versionZero() {
        DUE.says("version 0");
        Wire w = Wire.withSlot();
        DUE.is("version 0", w.hear(Wire.packet(1, 0, 0, 1, 0, 0, 64, 0)), 3);
        DUE.is("version 0 of folder 1", w.hear(Wire.packet(1, 1, 0, 1, 0, 0, 64, 0)), 3);
        DUE.is("no rows", w.link.count(1), 0);
        for (int version : new int[] {1, 255, 256, 65535}) {
            DUE.is("version " + version, w.hear(Wire.packet(1, 0, version, 1, 0, 0, 64, 0)), 0);
            DUE.is("is heard", w.link.have(0, version), 1);
        }
    }

    private static void itemAboveSix() {
        DUE.says("item above 6");
        Wire w = Wire.withSlot();
        for (int item : new int[] {7, 8, 14, 128, 255}) {
            DUE.is("item " + item, w.hear(Wire.packet(1, 0, 1, item, 0, 0, 64, 0)), 3);
        }
        DUE.is("nothing heard", w.link.have(0, 1), 0);
        for (int item = 0; item <= 6; item++) {
            DUE.is("item " + item, w.hear(Wire.packet(1, 0, 1, item, 0, 0, 64, 0)), 0);
            DUE.is("has a row", w.link.rank(0, 1, item, 0), 1);
        }
    }

    private static void sizeAbove104() {
        DUE.says("more than 104 of size");
        Wire w = Wire.withSlot();
        for (int size : new int[] {105, 106, 128, 129, 255}) {
            DUE.is("size " + size, w.hear(Wire.packet(1, 0, 1, 1, 0, 0, size, 0)), 3);
            DUE.is("size " + size + ", block 1", w.hear(Wire.packet(1, 0, 1, 1, 1, 0, size, 0)), 3);
        }
        DUE.is("nothing heard", w.link.have(0, 1), 0);
        for (int item = 0; item <= 6; item++) {
            DUE.is("size 104 of item " + item, w.hear(Wire.packet(1, 0, 1, item, 1, 0, 104, 0)), 0);
        }
    }

    private static void blocksAndJ() {
        DUE.says("a block or j that such a size does not have");
        for (int size = 0; size <= 104; size++) {
            int blocks = size <= 64 ? 1 : 2;
            Wire w = Wire.withSlot();
            DUE.is("block " + blocks + " of size " + size, w.hear(Wire.packet(1, 0, 1, 1, blocks, 0, size, 0)), 3);
            DUE.is("block 255 of size " + size, w.hear(Wire.packet(1, 0, 1, 1, 255, 0, size, 0)), 3);
            for (int block = 0; block < blocks; block++) {
                int bytes = block == 0 ? Math.min(size, 64) : size - 64;
                int packets = size == 0 ? 2 : 2 * ((bytes + 7) / 8);
                String what = " of block " + block + " of size " + size;
                DUE.is("j " + packets + what, w.hear(Wire.packet(1, 0, 1, 1, block, packets, size, 0)), 3);
                DUE.is("j 255" + what, w.hear(Wire.packet(1, 0, 1, 1, block, 255, size, 0)), 3);
                DUE.is("nothing" + what, w.link.rank(0, 1, 1, block), 0);
                DUE.is("j " + (packets - 1) + what, w.hear(Wire.packet(1, 0, 1, 1, block, packets - 1, size, 0)), 0);
                DUE.is("rank" + what, w.link.rank(0, 1, 1, block), packets == 2 ? 8 : 1);
            }
        }
    }

    private static void belowTheKnown() {
        DUE.says("or it is below the 4 greatest versions heard of its folder, when there are 4");
        Wire w = Wire.withSlot();
        for (int version : new int[] {7, 3, 9, 5}) {
            DUE.is("version " + version, w.hear(piece(1, 0, version, 1, LONG, 0)), 0);
        }
        DUE.is("below the four", w.hear(piece(1, 0, 2, 1, LONG, 0)), 3);
        DUE.is("it is not heard", w.link.have(0, 2), 0);
        DUE.is("the other folder has its own four", w.hear(piece(1, 1, 2, 1, LONG, 0)), 0);
        DUE.is("the least of the four", w.hear(piece(1, 0, 3, 1, LONG, 1)), 0);
        DUE.is("rows", w.link.count(1), 6);
        DUE.says("a fifth one makes the least be forgotten");
        DUE.is("a fifth one between", w.hear(piece(1, 0, 4, 1, LONG, 0)), 0);
        DUE.is("the least is forgotten", w.link.have(0, 3), 0);
        DUE.is("its rows go", w.link.count(1), 5);
        DUE.is("rank of a forgotten one", w.link.rank(0, 3, 1, 0), 0);
        DUE.is("it cannot come again", w.hear(piece(1, 0, 3, 1, LONG, 0)), 3);
        DUE.is("the others stay", w.link.have(0, 5) + w.link.have(0, 7) + w.link.have(0, 9), 3);
        DUE.is("a greater one", w.hear(piece(1, 0, 65535, 1, LONG, 0)), 0);
        DUE.is("then the next one is forgotten", w.link.have(0, 4), 0);
        DUE.is("rows then", w.link.count(1), 5);
    }

    private static void belowWhenThereAreNotFour() {
        DUE.says("or it is below the 4 greatest versions heard of its folder, when there are 4");
        Wire w = Wire.withSlot();
        for (int version = 65535; version >= 65532; version--) {
            DUE.is("version " + version, w.hear(piece(1, 1, version, 1, LONG, 0)), 0);
        }
        DUE.is("the first below four", w.hear(piece(1, 1, 65531, 1, LONG, 0)), 3);
        DUE.is("version 1 of folder 0", w.hear(piece(1, 0, 1, 1, LONG, 0)), 0);
        DUE.is("version 4 of folder 0", w.hear(piece(1, 0, 4, 1, LONG, 0)), 0);
        DUE.is("version 2 of folder 0", w.hear(piece(1, 0, 2, 1, LONG, 0)), 0);
        w.link.restartReceiver();
        DUE.is("versions stay heard without rows", w.hear(piece(1, 1, 65531, 1, LONG, 0)), 3);
    }

    // ---- reasons 4 and 5

    private static void otherSize() {
        DUE.says("4 of an item of which it has another size (while it has a row or a solved block of it)");
        Wire w = Wire.withSlot();
        DUE.is("a row of size 64", w.hear(piece(1, 0, 1, 1, LONG, 0)), 0);
        DUE.is("size 63, while there is a row", w.hear(piece(1, 0, 1, 1, Wire.filled(63, 1), 1)), 4);
        DUE.is("size 65", w.hear(piece(1, 0, 1, 1, Wire.filled(65, 1), 1)), 4);
        DUE.is("the other block of size 65", w.hear(Wire.packetOf(1, 0, 1, 1, Wire.filled(65, 1), 1, 0)), 4);
        DUE.is("size 0", w.hear(piece(1, 0, 1, 1, new byte[0], 0)), 4);
        DUE.is("another item", w.hear(piece(1, 0, 1, 2, Wire.filled(63, 1), 1)), 0);
        DUE.is("another version", w.hear(piece(1, 0, 2, 1, Wire.filled(63, 1), 1)), 0);
        DUE.is("another folder", w.hear(piece(1, 1, 1, 1, Wire.filled(63, 1), 1)), 0);
        DUE.is("the manifest has a size, too", w.hear(piece(1, 0, 1, 0, Wire.filled(40, 1), 1)), 0);
        DUE.is("and no other one", w.hear(piece(1, 0, 1, 0, Wire.filled(39, 1), 1)), 4);
        DUE.is("dropped", w.link.count(0), 5);
    }

    private static void otherSizeIsForgotten() {
        DUE.says("(while it has a row or a solved block of it)");
        Wire w = Wire.withSlot();
        w.hear(piece(1, 0, 1, 1, LONG, 0));
        w.link.restartReceiver();
        DUE.is("size 72, when there is no row", w.hear(Wire.packetOf(1, 0, 1, 1, Wire.filled(72, 1), 1, 0)), 0);
        DUE.is("block 1 is solved", w.link.rank(0, 1, 1, 1), 8);
        w.link.restartReceiver();
        DUE.is("size 64, while a block is solved", w.hear(piece(1, 0, 1, 1, LONG, 0)), 4);
        DUE.is("size 73, while block 1 is solved", w.hear(Wire.packetOf(1, 0, 1, 1, Wire.filled(73, 1), 0, 0)), 4);
        DUE.is("the other block", w.hear(Wire.packetOf(1, 0, 1, 1, Wire.filled(72, 1), 0, 1)), 0);
        DUE.is("a row in block 0 of size 104", w.hear(Wire.packetOf(1, 0, 1, 2, Wire.filled(104, 1), 0, 1)), 0);
        DUE.is("block 1 of another size", w.hear(Wire.packetOf(1, 0, 1, 2, Wire.filled(103, 1), 1, 1)), 4);
        DUE.is("a row in block 1 of size 104", w.hear(Wire.packetOf(1, 0, 1, 3, Wire.filled(104, 1), 1, 1)), 0);
        DUE.is("block 0 of another size", w.hear(Wire.packetOf(1, 0, 1, 3, Wire.filled(103, 1), 0, 1)), 4);
        DUE.is("dropped", w.link.count(0), 4);
    }

    private static void solvedBlock() {
        DUE.says("or whose block is solved");
        Wire w = Wire.withSlot();
        byte[] bytes = Wire.filled(72, 9);
        for (int j = 0; j < 2; j++) {
            DUE.is("block 1, packet " + j, w.hear(Wire.packetOf(1, 0, 1, 1, bytes, 1, j)), j == 0 ? 0 : 4);
        }
        DUE.is("with other bytes", w.hear(Wire.packet(1, 0, 1, 1, 1, 0, 72, 1234)), 4);
        for (int j = 0; j < 8; j++) {
            DUE.is("block 0, packet " + j, w.hear(Wire.packetOf(1, 0, 1, 1, bytes, 0, j)), 0);
        }
        for (int j = 0; j < 16; j++) {
            DUE.is("block 0 is solved, packet " + j, w.hear(Wire.packetOf(1, 0, 1, 1, bytes, 0, j)), 4);
        }
        DUE.is("an empty one", w.hear(piece(1, 0, 1, 2, new byte[0], 1)), 0);
        DUE.is("is solved", w.hear(piece(1, 0, 1, 2, new byte[0], 0)), 4);
    }

    private static void tellsNothingNew() {
        DUE.says("5 that tells nothing new (its mask is a sum of masks of rows of the block)");
        Wire w = Wire.withSlot();
        byte[] bytes = Wire.bytes("abcdefghijklmnopqrstuvwx");
        DUE.is("piece 0", w.hear(piece(1, 0, 1, 1, bytes, 0)), 0);
        DUE.is("piece 0 again", w.hear(piece(1, 0, 1, 1, bytes, 0)), 5);
        DUE.is("piece 0 with other bytes", w.hear(Wire.packet(1, 0, 1, 1, 0, 0, 24, 77)), 5);
        DUE.is("rows", w.link.rank(0, 1, 1, 0), 1);
        DUE.is("piece 0 of the other folder", w.hear(piece(1, 1, 1, 1, bytes, 0)), 0);
        DUE.is("piece 0 of another item", w.hear(piece(1, 0, 1, 2, bytes, 0)), 0);
        DUE.is("piece 0 of another version", w.hear(piece(1, 0, 2, 1, bytes, 0)), 0);
        DUE.is("piece 1", w.hear(piece(1, 0, 1, 1, bytes, 1)), 0);
        DUE.is("piece 2", w.hear(piece(1, 0, 1, 1, bytes, 2)), 0);
        DUE.is("behind it", w.hear(piece(1, 0, 1, 1, bytes, 0)), 4);
    }

    /** A sum of three rows, none of which it is alone: packet 9 is that of pieces 0, 2 and 3. */
    private static void tellsASumOfRows() {
        DUE.says("5 that tells nothing new (its mask is a sum of masks of rows of the block)");
        Wire w = Wire.withSlot();
        DUE.is("packet 9", w.hear(piece(1, 0, 1, 1, LONG, 9)), 0);
        DUE.is("piece 0", w.hear(piece(1, 0, 1, 1, LONG, 0)), 0);
        DUE.is("piece 3", w.hear(piece(1, 0, 1, 1, LONG, 3)), 0);
        DUE.is("piece 2 is their sum", w.hear(piece(1, 0, 1, 1, LONG, 2)), 5);
        DUE.is("piece 2 is their sum, with other bytes", w.hear(Wire.packet(1, 0, 1, 1, 0, 2, 64, 5)), 5);
        DUE.is("rank", w.link.rank(0, 1, 1, 0), 3);
        DUE.is("piece 1 is not", w.hear(piece(1, 0, 1, 1, LONG, 1)), 0);
    }

    private static void firstReasonThatHolds() {
        DUE.says("(The first that holds;");
        Wire w = Wire.withSlot();
        w.hear(piece(5, 0, 1, 1, LONG, 0));
        byte[] wrong = piece(4, 2, 0, 7, LONG, 0);
        wrong[16] ^= 1;
        DUE.is("1 before 2 and 3", w.hear(wrong), 1);
        DUE.is("2 before 3", w.hear(piece(4, 2, 0, 7, LONG, 0)), 2);
        DUE.is("2 before 4", w.hear(piece(4, 0, 1, 1, Wire.filled(60, 1), 0)), 2);
        DUE.is("2 before 5", w.hear(piece(4, 0, 1, 1, LONG, 0)), 2);
        DUE.is("3 before 4", w.hear(Wire.packet(5, 0, 1, 1, 0, 2, 8, 0)), 3);
        DUE.is("4 before 5", w.hear(piece(5, 0, 1, 1, Wire.filled(60, 1), 0)), 4);
        for (int k = 1; k < 24; k++) {
            w.hear(piece(5, 0, 1, 1 + k % 4, LONG, k / 4));
        }
        DUE.is("rows", w.link.count(1), 24);
        DUE.is("3 before 6", w.hear(piece(5, 0, 1, 7, LONG, 5)), 3);
        DUE.is("4 before 6", w.hear(piece(5, 0, 1, 4, Wire.filled(60, 1), 5)), 4);
        DUE.is("5 before 6", w.hear(piece(5, 0, 1, 4, LONG, 2)), 5);
        DUE.is("6", w.hear(piece(5, 0, 1, 4, LONG, 6)), 6);
    }

    private static void droppedChangesNothing() {
        DUE.says("nothing else changes by it");
        byte[] wrong = piece(1, 0, 5, 1, LONG, 7);
        wrong[23] ^= 128;
        byte[][] dropped = {wrong, piece(0, 0, 5, 1, LONG, 7), piece(1, 0, 5, 7, LONG, 7),
            piece(1, 0, 4, 1, Wire.filled(63, 1), 7), piece(1, 0, 4, 1, LONG, 5), piece(1, 0, 4, 1, LONG, 7)};
        for (int why = 1; why <= 6; why++) {
            Wire w = Wire.withSlot();
            for (int k = 0; k < 24; k++) {
                w.hear(piece(1, 0, 4, 1 + k / 6, LONG, k % 6));
            }
            String before = w.told(0, 4, 5);
            DUE.is("dropped as " + why, w.hear(dropped[why - 1]), why);
            DUE.is("is counted", w.link.count(0), 1);
            DUE.is("what is told behind " + why + ":" + before, w.told(0, 4, 5).equals(before), true);
        }
    }

    // ---- rows and solved blocks

    /** Sums alone, without a plain piece, where the masks can be solved. */
    private static void sumsAreSolved() {
        DUE.says("A block with n rows is SOLVED: its bytes are known, its rows go.");
        byte[] bytes = Wire.bytes("The quick brown fox jumps over the lazy dog, then rests.");
        int n = Wire.pieces(bytes.length, 0);
        int solved = 0;
        int[] versions = {1, 2, 3, 4, 5, 6, 7, 255, 256, 1000, 32768, 65535};
        for (int version : versions) {
            Wire w = Wire.withSlot();
            w.hearItem(0, version, 0, Wire.manifest(version, "f", bytes));
            for (int j = 2 * n - 1; j >= 0; j--) {
                w.hear(piece(1, 0, version, 1, bytes, j));
            }
            DUE.is("all packets, the last ones first", w.link.have(0, version), 2);
            DUE.is("release", w.link.release(0), version);
            for (int i = 0; i < bytes.length; i++) {
                solved += w.link.file(0, 0, i, true) == bytes[i] ? 1 : 0;
            }
        }
        DUE.is("bytes as they were", solved, versions.length * bytes.length);
    }

    /** Files of two blocks as each of the items, from their last packets on. */
    private static void secondBlocksAreSolved() {
        DUE.says("A block has PACKETS j = 0 .. 2n - 1: the exclusive-or of the pieces of a MASK");
        for (int item = 1; item <= 6; item++) {
            byte[] bytes = new byte[90 + item];
            for (int i = 0; i < bytes.length; i++) {
                bytes[i] = (byte) (i * i + item);
            }
            Object[] parts = new Object[2 * item];
            for (int k = 0; k < item; k++) {
                parts[2 * k] = "" + (char) ('a' + k);
                parts[2 * k + 1] = k == item - 1 ? bytes : new byte[0];
            }
            Wire w = Wire.withSlot();
            w.hearItem(0, 2, 0, Wire.manifest(2, parts));
            for (int k = 1; k < item; k++) {
                w.hearItem(0, 2, k, new byte[0]);
            }
            for (int block = 1; block >= 0; block--) {
                for (int j = 2 * Wire.pieces(bytes.length, block) - 1; j >= 0; j--) {
                    if (w.link.rank(0, 2, item, block) < 8) {
                        w.hear(Wire.packetOf(1, 0, 2, item, bytes, block, j));
                    }
                }
            }
            DUE.is("a file of " + bytes.length + " as item " + item, w.link.have(0, 2), 2);
        }
    }

    /** For each size: hears packets in a mixed order until the block is solved, the rank counting. */
    private static void everyMixIsSolved() {
        DUE.says("A block with n rows is SOLVED: its bytes are known, its rows go.");
        for (int size = 0; size <= 64; size += 4) {
            byte[] bytes = new byte[size];
            for (int i = 0; i < size; i++) {
                bytes[i] = (byte) (i * 11 + 3);
            }
            Wire w = Wire.withSlot();
            int n = Wire.pieces(size, 0);
            Set<Integer> sums = new HashSet<>(Set.of(0));
            int rank = 0;
            for (int t = 0; t < 2 * n; t++) {
                int j = (t * (2 * n - 1) + n) % (2 * n);
                int mask = Wire.mask(3, 2, 0, j, n);
                int want = rank == n ? 4 : sums.contains(mask) ? 5 : 0;
                DUE.is("size " + size + ", packet " + j, w.hear(piece(1, 1, 3, 2, bytes, j)), want);
                if (want == 0) {
                    rank++;
                    for (int sum : List.copyOf(sums)) {
                        sums.add(sum ^ mask);
                    }
                }
                DUE.is("rank", w.link.rank(1, 3, 2, 0), rank == n ? 8 : rank);
                DUE.is("rows", w.link.count(1), rank == n ? 0 : rank);
            }
        }
    }

    /** A last piece with more than zeros behind the item's end is as good as any. */
    private static void whatIsBehindTheSizeIsLeftOut() {
        DUE.says("A block with n rows is SOLVED: its bytes are known, its rows go.");
        Wire w = Wire.withSlot();
        DUE.is("three bytes and five more", w.hear(Wire.packet(1, 0, 1, 1, 0, 0, 3, 0x6162630102030405L)), 0);
        w.hearItem(0, 1, 0, Wire.manifest(1, "a", SHORT));
        DUE.is("three bytes", w.link.have(0, 1), 2);
        DUE.is("nothing and eight more", w.hear(Wire.packet(1, 1, 1, 1, 0, 0, 0, -1L)), 0);
        w.hearItem(1, 1, 0, Wire.manifest(1, "a", new byte[0]));
        DUE.is("nothing", w.link.have(1, 1), 2);
    }

    // ---- room

    private static void rowsUpTo24() {
        DUE.says("Otherwise its ROW is kept: up to 24 rows of unsolved blocks in all.");
        Wire w = Wire.withSlot();
        for (int k = 0; k < 24; k++) {
            DUE.is("rows", w.link.count(1), k);
            DUE.is("a row", w.hear(piece(1, k % 2, 1, 1 + k / 2 % 6, LONG, k / 12)), 0);
        }
        DUE.is("rows then", w.link.count(1), 24);
        DUE.is("one more", w.hear(piece(1, 0, 1, 0, LONG, 0)), 6);
        DUE.is("rows still", w.link.count(1), 24);
        Wire v = Wire.withSlot();
        hearRows(v, 0, 1, 1, 7);
        hearRows(v, 0, 1, 2, 7);
        hearRows(v, 1, 1, 1, 7);
        hearRows(v, 1, 1, 2, 2);
        DUE.is("23 rows", v.link.count(1), 23);
        DUE.is("the 24th solves its block", v.hear(piece(1, 0, 1, 1, LONG, 7)), 0);
        DUE.is("rows of the others", v.link.count(1), 16);
    }

    private static void rowsOfTheLeastGo() {
        DUE.says("all rows of the least version that has rows and is not the one of the greatest number known of its "
            + "folder go");
        Wire w = Wire.withSlot();
        w.hear(piece(1, 1, 1, 1, SHORT, 0));
        hearRows(w, 1, 4, 1, 6);
        hearRows(w, 0, 3, 1, 6);
        hearRows(w, 0, 5, 1, 6);
        hearRows(w, 1, 6, 1, 6);
        DUE.is("rows", w.link.count(1), 24);
        DUE.is("what tells nothing new needs no room", w.hear(piece(1, 1, 6, 1, LONG, 0)), 5);
        DUE.is("rows still", w.link.count(1), 24);
        DUE.is("one more", w.hear(piece(1, 1, 6, 1, LONG, 6)), 0);
        DUE.is("version 3 is the least that has rows", w.link.rank(0, 3, 1, 0), 0);
        DUE.is("it is known still", w.link.have(0, 3), 1);
        DUE.is("rows then", w.link.count(1), 19);
        DUE.is("a solved block of a lesser one stays", w.link.rank(1, 1, 1, 0), 8);
        hearRows(w, 0, 5, 2, 5);
        DUE.is("one more again", w.hear(piece(1, 0, 5, 3, LONG, 0)), 0);
        DUE.is("then version 4", w.link.rank(1, 4, 1, 0), 0);
        DUE.is("the greatest of folder 0 stays", w.link.rank(0, 5, 1, 0), 6);
        DUE.is("the greatest of folder 1 stays", w.link.rank(1, 6, 1, 0), 7);
        DUE.is("rows at last", w.link.count(1), 19);
    }

    private static void oneRowGoes() {
        DUE.says("all rows of the least version that has rows and is not the one of the greatest number known of its "
            + "folder go");
        for (int place = 0; place < 24; place += 23) {
            Wire w = Wire.withSlot();
            for (int k = 0; k < 24; k++) {
                w.hear(piece(1, 0, k == place ? 3 : 4, 1 + k / 7, LONG, k % 7));
            }
            DUE.is("rows", w.link.count(1), 24);
            DUE.is("one more", w.hear(piece(1, 0, 4, 5, LONG, 0)), 0);
            DUE.is("one went for it", w.link.count(1), 24);
            DUE.is("the one of the lesser version", w.link.rank(0, 3, 1 + place / 7, 0), 0);
            DUE.is("and the next one has no room", w.hear(piece(1, 0, 4, 5, LONG, 1)), 6);
        }
    }

    /** The manifest's rows of the very next version: folder 1 comes behind folder 0 of the same number. */
    private static void rowsOfTheNextStay() {
        DUE.says("all rows of the least version that has rows and is not the one of the greatest number known of its "
            + "folder go");
        int[][] goneAndNext = {{0, 4, 1, 4}, {1, 4, 0, 5}};
        for (int[] a : goneAndNext) {
            Wire w = Wire.withSlot();
            w.hear(Wire.packetOf(1, a[0], a[1], 6, Wire.filled(104, 1), 1, 0));
            w.hear(Wire.packetOf(1, a[2], a[3], 0, Wire.filled(99, 1), 0, 0));
            w.hear(Wire.packetOf(1, a[2], a[3], 0, Wire.filled(99, 1), 1, 0));
            for (int k = 0; k < 21; k++) {
                w.hear(piece(1, k % 2, 6, 1 + k / 14, LONG, k / 2 % 7));
            }
            DUE.is("rows", w.link.count(1), 24);
            DUE.is("one more", w.hear(piece(1, 0, 6, 3, LONG, 0)), 0);
            DUE.is("the least went", w.link.rank(a[0], a[1], 6, 1), 0);
            DUE.is("the next has block 0", w.link.rank(a[2], a[3], 0, 0), 1);
            DUE.is("and block 1", w.link.rank(a[2], a[3], 0, 1), 1);
        }
    }

    private static void rowsOfFolderZeroGoFirst() {
        DUE.says("(folder 0 first of the same numbers)");
        Wire w = Wire.withSlot();
        hearRows(w, 1, 2, 1, 6);
        hearRows(w, 0, 2, 1, 6);
        hearRows(w, 0, 3, 1, 6);
        hearRows(w, 1, 5, 1, 6);
        DUE.is("one more", w.hear(piece(1, 1, 5, 1, LONG, 6)), 0);
        DUE.is("folder 0", w.link.rank(0, 2, 1, 0), 0);
        DUE.is("folder 1 has its rows", w.link.rank(1, 2, 1, 0), 6);
        hearRows(w, 0, 3, 2, 5);
        DUE.is("one more again", w.hear(piece(1, 0, 3, 3, LONG, 0)), 0);
        DUE.is("then folder 1", w.link.rank(1, 2, 1, 0), 0);
    }

    private static void ownRowsGo() {
        DUE.says("For room, with 24 rows:");
        Wire w = Wire.withSlot();
        DUE.is("a greater one without rows", w.hear(Wire.packetOf(1, 0, 9, 1, Wire.bytes("x"), 0, 0)), 0);
        hearRows(w, 0, 4, 1, 7);
        hearRows(w, 0, 4, 2, 7);
        hearRows(w, 0, 4, 3, 7);
        hearRows(w, 0, 4, 4, 3);
        DUE.is("the row that would solve a block", w.hear(piece(1, 0, 4, 1, LONG, 7)), 0);
        DUE.is("is the only one then", w.link.count(1), 1);
        DUE.is("rank", w.link.rank(0, 4, 1, 0), 1);
        DUE.is("the others went", w.link.rank(0, 4, 2, 0), 0);
    }

    private static void rowsOfAllItemsGo() {
        DUE.says("all rows of the least version that has rows and is not the one of the greatest number known of its "
            + "folder go");
        Wire w = Wire.withSlot();
        byte[] most = Wire.filled(104, 3);
        for (int item = 0; item <= 6; item++) {
            for (int block = 0; block < 2; block++) {
                w.hear(Wire.packetOf(1, 0, 3, item, most, block, 0));
            }
        }
        hearRows(w, 0, 4, 1, 7);
        hearRows(w, 1, 1, 1, 3);
        DUE.is("rows", w.link.count(1), 24);
        DUE.is("one more", w.hear(piece(1, 1, 1, 1, LONG, 3)), 0);
        DUE.is("14 rows went", w.link.count(1), 11);
        for (int item = 0; item <= 6; item++) {
            DUE.is("item " + item, w.link.rank(0, 3, item, 0) + w.link.rank(0, 3, item, 1), 0);
        }
        DUE.is("the item may have another size then", w.hear(piece(1, 0, 3, 0, LONG, 0)), 0);
    }

    private static void noRoom() {
        DUE.says("6 for which there is no ROOM");
        Wire w = Wire.withSlot();
        hearRows(w, 0, 4, 1, 7);
        hearRows(w, 0, 4, 2, 7);
        hearRows(w, 1, 4, 1, 7);
        hearRows(w, 1, 4, 2, 3);
        DUE.is("all rows are of greatest ones", w.hear(piece(1, 0, 4, 3, LONG, 0)), 6);
        DUE.is("the row that would solve a block", w.hear(piece(1, 0, 4, 1, LONG, 7)), 6);
        DUE.is("what is solved by one", w.hear(piece(1, 0, 4, 4, Wire.bytes("x"), 0)), 6);
        DUE.is("what is empty", w.hear(piece(1, 1, 4, 4, new byte[0], 0)), 6);
        DUE.says("when there is none such, there is no room");
        DUE.is("a lesser version, none that has rows", w.hear(piece(1, 0, 3, 1, LONG, 0)), 6);
        DUE.is("rows", w.link.count(1), 24);
        DUE.is("dropped", w.link.count(0), 5);
        w.link.restartReceiver();
        DUE.is("room again", w.hear(piece(1, 0, 4, 3, LONG, 0)), 0);
    }

    private static void aNewGreatestMakesRoom() {
        DUE.says("is not the one of the greatest number known of its folder go");
        Wire w = Wire.withSlot();
        hearRows(w, 0, 4, 1, 7);
        hearRows(w, 0, 4, 2, 7);
        hearRows(w, 0, 4, 3, 7);
        hearRows(w, 0, 4, 4, 3);
        DUE.is("a greater version", w.hear(piece(1, 0, 5, 1, LONG, 0)), 0);
        DUE.is("the rows of the lesser one went", w.link.count(1), 1);
        DUE.is("it is known still", w.link.have(0, 4), 1);
    }

    /** The rows of a version that is forgotten leave room: nothing else has to go. */
    private static void aFifthMakesRoom() {
        DUE.says("a fifth one makes the least be forgotten");
        Wire w = Wire.withSlot();
        hearRows(w, 0, 2, 1, 6);
        hearRows(w, 0, 3, 1, 6);
        hearRows(w, 0, 4, 1, 6);
        hearRows(w, 0, 5, 1, 6);
        DUE.is("a fifth one", w.hear(piece(1, 0, 6, 1, LONG, 0)), 0);
        DUE.is("the least is forgotten", w.link.have(0, 2), 0);
        DUE.is("the next one has its rows", w.link.rank(0, 3, 1, 0), 6);
        DUE.is("rows", w.link.count(1), 19);
    }

    private static void heardWithoutARow() {
        DUE.says("A version is HEARD when a packet of it was not dropped as 1 to 3.");
        Wire w = Wire.withSlot();
        hearRows(w, 1, 9, 1, 7);
        hearRows(w, 1, 9, 2, 7);
        hearRows(w, 1, 9, 3, 7);
        hearRows(w, 1, 9, 4, 3);
        for (int version = 5; version >= 2; version--) {
            DUE.is("no room for " + version, w.hear(piece(1, 0, version, 1, LONG, 0)), 6);
            DUE.is("it is heard by it", w.link.have(0, version), 1);
            DUE.is("it has nothing", w.link.rank(0, version, 1, 0), 0);
        }
        DUE.is("four are heard", w.hear(piece(1, 0, 1, 1, LONG, 0)), 3);
        DUE.is("a fifth one", w.hear(piece(1, 0, 6, 1, LONG, 0)), 6);
        DUE.is("makes the least be forgotten", w.link.have(0, 2), 0);
        DUE.is("rows", w.link.count(1), 24);
    }

    // ---- promises 11, 14, 21

    private static void restartReceiverLosesRows() {
        DUE.says("The receiver begins anew: the rows of unsolved blocks are lost, as told above.");
        Wire w = Wire.withSlot();
        w.link.restartReceiver();
        DUE.is("nothing to lose", w.link.count(1), 0);
        w.link.rule(0, 50, true);
        hearRows(w, 0, 4, 1, 7);
        w.hear(Wire.packetOf(9, 0, 4, 2, Wire.bytes("x"), 0, 0));
        w.hear(piece(9, 1, 1, 0, Wire.manifest(1), 0));
        w.link.release(1);
        w.hear(piece(9, 0, 4, 1, LONG, 0));
        w.hear(piece(9, 1, 4, 1, LONG, 0));
        int dropped = w.link.count(0);
        w.link.restartReceiver();
        DUE.is("no rows", w.link.count(1), 0);
        DUE.is("rank", w.link.rank(0, 4, 1, 0), 0);
        DUE.is("solved blocks stay", w.link.rank(0, 4, 2, 0), 8);
        DUE.is("versions stay", w.link.have(0, 4), 1);
        DUE.is("what is released stays", w.link.released(1), 1);
        DUE.is("the journal stays", w.link.journal(-1, 0), 1);
        DUE.is("the greatest life stays", w.hear(piece(8, 0, 4, 1, LONG, 0)), 2);
        DUE.is("dropped stays", w.link.count(0), dropped + 1);
        DUE.is("a row comes again", w.hear(piece(9, 0, 4, 1, LONG, 0)), 0);
        DUE.is("packets sent stay", w.link.count(2), 1);
    }

    private static byte[] rising(int size, int first) {
        byte[] bytes = new byte[size];
        for (int i = 0; i < size; i++) {
            bytes[i] = (byte) (first + i);
        }
        return bytes;
    }

    private static void lostRowsComeAgain() {
        DUE.says("restartReceiver(): the rows of unsolved blocks are lost.");
        Wire w = Wire.withSlot();
        byte[] bytes = rising(24, 60);
        w.hearItem(0, 1, 0, Wire.manifest(1, "a", bytes));
        for (int lost = 1; lost <= 2; lost++) {
            for (int j = 0; j < lost; j++) {
                DUE.is("a row", w.hear(piece(1, 0, 1, 1, bytes, j)), 0);
            }
            w.link.restartReceiver();
            DUE.is("is lost", w.link.rank(0, 1, 1, 0), 0);
        }
        for (int j = 0; j < 3; j++) {
            DUE.is("comes again", w.hear(piece(1, 0, 1, 1, bytes, j)), 0);
        }
        DUE.is("with the right bytes", w.link.have(0, 1), 2);
    }

    /** Rows of several blocks by turns: what goes of one leaves the others as they are. */
    private static void blocksAreSolvedApart() {
        DUE.says("A block with n rows is SOLVED: its bytes are known, its rows go.");
        Wire w = Wire.withSlot();
        byte[][] files = {rising(16, 1), rising(24, 50), rising(32, 90), rising(20, 7)};
        for (int j = 0; j < 4; j++) {
            for (int item = 1; item <= 4; item++) {
                if (j < Wire.pieces(files[item - 1].length, 0)) {
                    DUE.is("piece " + j + " of " + item, w.hear(piece(1, 0, 1, item, files[item - 1], j)), 0);
                }
            }
        }
        DUE.is("no rows", w.link.count(1), 0);
        w.hearItem(0, 1, 0, Wire.manifest(1, "a", files[0], "b", files[1], "c", files[2], "d", files[3]));
        DUE.is("with the right bytes", w.link.have(0, 1), 2);
    }

    private static void rankTells() {
        DUE.says("How many rows an unsolved block has; 8 of a solved one, 0 of one that is not known.");
        Wire w = Wire.withSlot();
        for (int j = 0; j < 8; j++) {
            DUE.is("rank before piece " + j, w.link.rank(1, 65535, 6, 0), j);
            w.hear(Wire.packetOf(1, 1, 65535, 6, Wire.filled(104, 7), 0, j));
        }
        DUE.is("of a solved one", w.link.rank(1, 65535, 6, 0), 8);
        DUE.is("its other block", w.link.rank(1, 65535, 6, 1), 0);
        DUE.is("another item", w.link.rank(1, 65535, 5, 0), 0);
        DUE.is("another version", w.link.rank(1, 65534, 6, 0), 0);
        DUE.is("the other folder", w.link.rank(0, 65535, 6, 0), 0);
        w.hear(piece(1, 0, 1, 1, SHORT, 0));
        DUE.is("a solved one of one piece", w.link.rank(0, 1, 1, 0), 8);
        DUE.is("block 1, which there is not", w.link.rank(0, 1, 1, 1), 0);
    }

    private static void rankRefuses() {
        DUE.says("IllegalArgumentException: folder, version, item (0 .. 6) or block (0, 1) are not so.");
        DiodeLink x = new DiodeLink();
        int[][] wrong = {{-1, 1, 0, 0}, {2, 1, 0, 0}, {0, 0, 0, 0}, {0, 65536, 0, 0}, {0, -1, 0, 0}, {0, 65537, 0, 0},
            {0, 1, -1, 0}, {0, 1, 7, 0}, {0, 1, 0, -1}, {0, 1, 0, 2}, {1, Integer.MIN_VALUE, 0, 0},
            {Integer.MAX_VALUE, 1, 0, 0}, {0, Integer.MAX_VALUE, 0, 0}, {0, 1, Integer.MAX_VALUE, 0},
            {0, 1, 0, Integer.MIN_VALUE}};
        for (int[] a : wrong) {
            DUE.refusesArgument("rank of " + java.util.Arrays.toString(a), () -> x.rank(a[0], a[1], a[2], a[3]));
        }
        DUE.is("rank of the first of all", x.rank(0, 1, 0, 0), 0);
        DUE.is("rank of the last of all", x.rank(1, 65535, 6, 1), 0);
    }

    private static void countTells() {
        DUE.says("0 dropped ever, 1 rows, 2 packets sent ever.");
        Wire w = Wire.withSlot();
        w.hear(piece(1, 0, 1, 1, LONG, 0));
        w.hear(piece(1, 0, 1, 2, LONG, 0));
        for (int k = 0; k < 3; k++) {
            w.link.hear(0);
        }
        DUE.is("dropped", w.link.count(0), 3);
        DUE.is("rows", w.link.count(1), 2);
        DUE.is("sent", w.link.count(2), 1);
        w.link.restartReceiver();
        w.link.restartSender();
        w.link.commit(0);
        w.link.send();
        DUE.is("dropped ever", w.link.count(0), 3);
        DUE.is("no rows", w.link.count(1), 0);
        DUE.is("sent ever", w.link.count(2), 2);
    }

    private static void countRefuses() {
        DUE.says("0 dropped ever, 1 rows, 2 packets sent ever. IllegalArgumentException: no such what.");
        DiodeLink x = new DiodeLink();
        for (int what : new int[] {-1, 3, 4, Integer.MIN_VALUE, Integer.MAX_VALUE}) {
            DUE.refusesArgument("count(" + what + ")", () -> x.count(what));
        }
    }
}
