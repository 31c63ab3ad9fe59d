import java.util.ArrayList;
import java.util.List;
import java.util.Random;
import java.util.TreeMap;

/**
 * Many runs of calls, chosen by a fixed seed, on DiodeLink and on the model side by side. Arguments:
 * how many runs, how many calls each, the first seed.
 */
public final class ModelTest {
    /** What the runs shall come to; a run that never gets there would look at nothing. */
    private static final String[] REACHED = {"hear 0", "hear 1", "hear 2", "hear 3", "hear 4", "hear 5", "hear 6",
        "have 0", "have 1", "have 2", "have 3", "have 4", "have 5", "isSound 0", "isSound 1", "remove 0", "remove 1",
        "feed IllegalArgumentException", "feed IllegalStateException", "write IllegalArgumentException",
        "write IllegalStateException", "remove IllegalArgumentException", "commit IllegalArgumentException",
        "send IllegalStateException", "packet IllegalArgumentException", "alter IllegalArgumentException",
        "hear IllegalArgumentException", "rule IllegalArgumentException", "have IllegalArgumentException",
        "rank IllegalArgumentException", "release IllegalArgumentException", "released IllegalArgumentException",
        "file IllegalArgumentException", "file IndexOutOfBoundsException", "journal IllegalArgumentException",
        "journal IndexOutOfBoundsException", "touch IllegalArgumentException", "touch IndexOutOfBoundsException",
        "count IllegalArgumentException", "rank 0", "rank 1", "rank 2", "rank 4", "rank 6", "rank 8", "file 255",
        "journal 4"};
    private static final TreeMap<String, Integer> TALLY = new TreeMap<>();

    /** How a run is weighted: small files, long ones with losses, forged packets, a long journal, all of it. */
    private enum Style { SMALL, LOSSY, FORGED, JOURNAL, MIXED }

    private static final String[] NAMES = {"a", "b", "ab", "a!", "zz~", "abcdef", "B", "c"};
    private static final int[] SHORT = {0, 1, 3, 8, 9, 16};
    private static final int[] LONG = {17, 40, 63, 64, 65, 72, 73, 95, 96};

    private final Due due;
    private final int seed;
    private final int limit;
    private final Random random;
    private final Style style;
    private final DiodeLink link = new DiodeLink();
    private final Model model = new Model();
    private final List<String> told = new ArrayList<>();
    private int calls = 0;
    private boolean broken = false;

    private ModelTest(Due due, int seed, int limit) {
        this.due = due;
        this.seed = seed;
        this.limit = limit;
        this.random = new Random(seed);
        this.style = Style.values()[Math.floorMod(seed, Style.values().length)];
    }

    public static void main(String[] args) {
        int runs = args.length > 0 ? Integer.parseInt(args[0]) : 1500;
        int limit = args.length > 1 ? Integer.parseInt(args[1]) : 512;
        int first = args.length > 2 ? Integer.parseInt(args[2]) : 1;
        Due due = new Due("ModelTest");
        for (int seed = first; seed < first + runs && due.wrong() == 0; seed++) {
            new ModelTest(due, seed, limit).run();
        }
        for (String answer : REACHED) {
            due.is("whether the runs came to: " + answer, TALLY.containsKey(answer) || due.wrong() > 0, true);
        }
        due.end();
    }

    private static String answerOf(Due.Call call) {
        try {
            return Long.toString(call.run());
        } catch (IllegalArgumentException | IllegalStateException | IndexOutOfBoundsException e) {
            return e.getClass().getSimpleName();
        }
    }

    private String both(String name, Due.Call real, Due.Call wanted) {
        if (calls >= limit || broken) {
            return "";
        }
        calls++;
        String got = answerOf(real);
        String want = answerOf(wanted);
        TALLY.merge(name.substring(0, name.indexOf('(')) + " " + got, 1, Integer::sum);
        told.add(name + " -> " + got);
        if (!got.equals(want)) {
            broken = true;
            told.forEach(System.out::println);
            due.is("seed " + seed + ", call " + calls + ", " + name + " (got " + got + ", due " + want + ")", 0, 1);
        }
        return got;
    }

    private String order(String name, Due.Order real, Due.Call wanted) {
        return both(name, Due.answering(real), wanted);
    }

    private boolean one(int in) {
        return random.nextInt(in) == 0;
    }

    /** Mostly one of 0 .. bound - 1, seldom one beyond. */
    private int number(int bound) {
        if (one(60)) {
            return one(2) ? Integer.MIN_VALUE : Integer.MAX_VALUE;
        }
        return one(30) ? random.nextInt(3) - 1 + (one(2) ? 0 : bound) : random.nextInt(Math.max(1, bound));
    }

    private void run() {
        if (one(20)) {
            both("send()", link::send, model::send);
        }
        if (style != Style.JOURNAL) {
            for (int files = random.nextInt(5); files >= 0; files--) {
                write(random.nextInt(2));
            }
        }
        for (int rules = random.nextInt(5) - 2; rules > 0; rules--) {
            rule();
        }
        commit(random.nextInt(2));
        while (calls < limit && !broken) {
            switch (style) {
                case SMALL -> step(20, 0, 50, 25);
                case LOSSY -> step(8, 0, 75, 12);
                case FORGED -> step(4, 60, 10, 20);
                case JOURNAL -> step(70, 0, 0, 25);
                default -> step(20, 15, 35, 20);
            }
        }
    }

    /** One of five things to do, by shares of 100; what is left is for disturbing. */
    private void step(int change, int forge, int send, int ask) {
        int choice = random.nextInt(100);
        if (choice < change) {
            if (style == Style.JOURNAL) {
                commitAndRelease();
            } else {
                change();
            }
        } else if (choice < change + forge) {
            forge();
        } else if (choice < change + forge + send) {
            sendAndHear();
        } else if (choice < change + forge + send + ask) {
            ask();
        } else {
            disturb();
        }
    }

    // ---- the sender's files

    private byte[] content() {
        int[] sizes = style == Style.LOSSY || one(8) ? LONG : SHORT;
        byte[] bytes = new byte[sizes[random.nextInt(sizes.length)]];
        int first = new int[] {65, 66, 255, 0}[random.nextInt(4)];
        for (int i = 0; i < bytes.length; i++) {
            bytes[i] = (byte) (first + i * (style == Style.LOSSY ? 7 : 0));
        }
        return bytes;
    }

    private void feed(boolean data, byte[] bytes) {
        for (int from = 0; from < bytes.length; from += 8) {
            int n = one(300) ? random.nextInt(12) - 1 : Math.min(8, bytes.length - from);
            long value = one(20) ? random.nextLong() : 0;
            for (int i = 0; i < 8 && from + i < bytes.length; i++) {
                value = value << 8 | bytes[from + i] & 255;
            }
            long fed = value;
            both("feed(" + data + ", " + fed + ", " + n + ")",
                () -> link.feed(data, fed, n), () -> model.feed(data, fed, n));
        }
    }

    private void write(int folder) {
        if (!one(60)) {
            byte[] name = Wire.bytes(NAMES[random.nextInt(NAMES.length)]);
            feed(false, one(60) ? new byte[] {(byte) random.nextInt(256)} : name);
        }
        feed(true, content());
        both("write(" + folder + ")", () -> link.write(folder), () -> model.write(folder));
    }

    private void commit(int folder) {
        both("commit(" + folder + ")", () -> link.commit(folder), () -> model.commit(folder));
    }

    private void change() {
        int folder = number(2);
        for (int writes = random.nextInt(3); writes > 0; writes--) {
            write(folder);
        }
        if (one(3)) {
            feed(false, Wire.bytes(NAMES[random.nextInt(NAMES.length)]));
            both("remove(" + folder + ")", () -> link.remove(folder) ? 1 : 0, () -> model.remove(folder));
        }
        if (!one(5)) {
            commit(folder);
        }
    }

    /** A version without files, heard by its first packet: an entry for four calls. */
    private void commitAndRelease() {
        commit(0);
        sendAndHearOne(1);
        release(one(30) ? number(2) : 0);
    }

    private void release(int folder) {
        both("release(" + folder + ")", () -> link.release(folder), () -> model.release(folder));
    }

    // ---- packets

    private void sendAndHear() {
        int heardOf = style == Style.LOSSY ? 2 + random.nextInt(4) : one(4) ? 4 : 1;
        for (int times = 1 + random.nextInt(24); times > 0; times--) {
            sendAndHearOne(heardOf);
        }
        ask();
    }

    private void sendAndHearOne(int heardOf) {
        both("send()", link::send, model::send);
        if (one(heardOf)) {
            hear(one(40) ? number(32) : Math.max(0, model.sent - 1) % 32);
        }
    }

    private void hear(int slot) {
        both("hear(" + slot + ")", () -> link.hear(slot), () -> model.hear(slot));
    }

    /** Packets of a version, near what is known, that no sender made. */
    private void forge() {
        if (model.slots[0] == null) {
            sendAndHearOne(2);
            return;
        }
        int folder = one(6) ? 1 : 0;
        int version = one(20) ? 65535 - random.nextInt(3) : 1 + random.nextInt(7);
        // A version has the same files whenever it is forged, but for a fault now and then.
        Random fixed = new Random(seed * 31L + version * 7L + folder);
        int files = fixed.nextInt(4);
        Object[] parts = new Object[2 * files];
        for (int k = 0; k < files; k++) {
            parts[2 * k] = "" + (char) ('a' + 2 * k + fixed.nextInt(2));
            int size = seed % 2 == 0 ? SHORT[fixed.nextInt(SHORT.length)] : LONG[fixed.nextInt(LONG.length)];
            parts[2 * k + 1] = Wire.filled(size, 65 + fixed.nextInt(2));
        }
        int item = random.nextInt(files + 1);
        byte[] bytes = item == 0 ? Wire.manifest(version, parts) : (byte[]) parts[2 * item - 1];
        if (one(10) && bytes.length > 0) {
            bytes = bytes.clone();
            bytes[random.nextInt(Math.min(6, bytes.length))] ^= (byte) (1 << random.nextInt(8));
        }
        if (one(seed % 2 == 0 ? 12 : 4)) {
            bytes = Wire.filled(random.nextInt(105), 65);
            item = random.nextInt(7);
        }
        forgePackets(folder, version, item, bytes);
    }

    private void forgePackets(int folder, int version, int item, byte[] bytes) {
        int life = one(60) ? model.greatestLife + random.nextInt(4) - 2 : model.greatestLife;
        int block = random.nextInt(Wire.blocks(bytes.length));
        int n = Wire.pieces(bytes.length, block);
        int from = random.nextInt(2 * n);
        for (int t = 0; t < 2 * n && t < 8; t++) {
            byte[] packet = Wire.packetOf(life, folder, version, item, bytes, block, (from + t) % (2 * n));
            if (one(30)) {
                packet[random.nextInt(8)] = (byte) random.nextInt(one(2) ? 256 : 9);
                java.nio.ByteBuffer.wrap(packet).putLong(16, Wire.hash(packet, 16));
            }
            put(packet);
            hear(0);
        }
    }

    private void put(byte[] packet) {
        for (int i = 0; i < 24; i++) {
            int bits = (model.slots[0][i] ^ packet[i]) & 255;
            if (bits != 0) {
                alter(0, i, bits);
            }
        }
    }

    private void alter(int slot, int i, int bits) {
        order("alter(" + slot + ", " + i + ", " + bits + ")",
            () -> link.alter(slot, i, bits), () -> model.alter(slot, i, bits));
    }

    // ---- the rest

    private void disturb() {
        int slot = number(32);
        int k = entry();
        int what = number(4);
        int bits = random.nextInt(600) - 44;
        switch (random.nextInt(8)) {
            case 0, 1 -> {
                alter(slot, number(24), bits);
                hear(slot);
            }
            case 2 -> both("restartSender()", link::restartSender, model::restartSender);
            case 3 -> order("restartReceiver()", link::restartReceiver, model::restartReceiver);
            case 4, 5, 6 -> rule();
            default -> order("touch(" + k + ", " + what + ", " + bits + ")",
                () -> link.touch(k, what, bits), () -> model.touch(k, what, bits));
        }
    }

    private void rule() {
        int kind = number(4);
        int value = kind == 0 ? number(97) : kind == 1 ? number(7) : one(3) ? number(256) : 65 + random.nextInt(34);
        boolean on = !one(3);
        order("rule(" + kind + ", " + value + ", " + on + ")",
            () -> link.rule(kind, value, on), () -> model.rule(kind, value, on));
    }

    /** Near the last entry, or near the first one that is kept, or any. */
    private int entry() {
        int entries = model.journal.size();
        return one(3) ? entries - 30 + random.nextInt(3) - 1 : number(entries) - (one(10) ? 1 : 0);
    }

    /** Mostly one that the receiver knows, or one near the released one, or any. */
    private int version(int folder) {
        if (folder < 0 || folder > 1 || one(5)) {
            return one(4) ? 65530 + random.nextInt(8) : number(9);
        }
        List<Integer> known = List.copyOf(model.known.get(folder).keySet());
        return known.isEmpty() || one(4) ? model.released[folder] + random.nextInt(5) - 2
            : known.get(random.nextInt(known.size()));
    }

    private void ask() {
        int folder = number(2);
        int version = version(folder);
        int item = number(7);
        int block = number(2);
        int slot = number(32);
        int place = one(10) ? number(24) : 8 * random.nextInt(3);
        int k = entry();
        int what = number(5);
        int count = number(3);
        switch (random.nextInt(10)) {
            case 0, 1 -> both("have(" + folder + ", " + version + ")",
                () -> link.have(folder, version), () -> model.have(folder, version));
            case 2 -> rank(folder, version, item, block);
            case 3 -> release(folder);
            case 4 -> both("released(" + folder + ")", () -> link.released(folder), () -> model.released(folder));
            case 5 -> files(folder);
            case 6 -> both("journal(" + k + ", " + what + ")",
                () -> link.journal(k, what), () -> model.journal(k, what));
            case 7 -> both("isSound()", () -> link.isSound() ? 1 : 0, model::isSound);
            case 8 -> both("count(" + count + ")", () -> link.count(count), () -> model.count(count));
            default -> both("packet(" + slot + ", " + place + ")",
                () -> link.packet(slot, place), () -> model.packet(slot, place));
        }
    }

    private void rank(int folder, int version, int item, int block) {
        if (!model.rows.isEmpty() && one(2)) {
            Model.Row row = model.rows.get(random.nextInt(model.rows.size()));
            askRank(row.folder(), row.version(), row.item(), row.block());
        } else {
            askRank(folder, version, item, block);
        }
    }

    private void askRank(int folder, int version, int item, int block) {
        both("rank(" + folder + ", " + version + ", " + item + ", " + block + ")",
            () -> link.rank(folder, version, item, block), () -> model.rank(folder, version, item, block));
    }

    private void files(int folder) {
        int k = number(3);
        boolean data = random.nextBoolean();
        for (int i : new int[] {-1, number(4), number(70)}) {
            both("file(" + folder + ", " + k + ", " + i + ", " + data + ")",
                () -> link.file(folder, k, i, data), () -> model.file(folder, k, i, data));
        }
    }
}
