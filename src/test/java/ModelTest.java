import java.util.ArrayList;
import java.util.List;
import java.util.Random;

/**
 * Many runs of calls, chosen by a fixed seed, on DiodeLink and on the model side by side. Arguments:
 * how many runs, how many calls each, the first seed.
 */
public final class ModelTest {
    private static final String[] NAMES = {"a", "b", "ab", "a!", "zz~", "abcdef", "B"};
    private static final int[] SIZES = {0, 1, 7, 8, 9, 16, 17, 63, 64, 65, 72, 95, 96};

    private final Due due;
    private final int seed;
    private final int limit;
    private final Random random;
    private final DiodeLink link = new DiodeLink();
    private final Model model = new Model();
    private final List<String> told = new ArrayList<>();
    private final int style;
    private int calls = 0;
    private boolean broken = false;

    private ModelTest(Due due, int seed, int limit) {
        this.due = due;
        this.seed = seed;
        this.limit = limit;
        this.random = new Random(seed);
        this.style = seed % 5;
    }

    public static void main(String[] args) {
        int runs = args.length > 0 ? Integer.parseInt(args[0]) : 1500;
        int limit = args.length > 1 ? Integer.parseInt(args[1]) : 512;
        int first = args.length > 2 ? Integer.parseInt(args[2]) : 1;
        Due due = new Due("ModelTest");
        for (int seed = first; seed < first + runs && due.wrong() == 0; seed++) {
            new ModelTest(due, seed, limit).run();
        }
        due.end();
    }

    private static String answerOf(Due.Call call) {
        try {
            return Long.toString(call.run());
        } catch (IllegalArgumentException | IllegalStateException | IndexOutOfBoundsException e) {
            return e.getClass().getSimpleName();
        }
    }

    private String both(String name, Due.Call real, Due.Call wanted) {
        if (calls >= limit || broken) {
            return "";
        }
        calls++;
        String got = answerOf(real);
        String want = answerOf(wanted);
        told.add(name + " -> " + got);
        if (!got.equals(want)) {
            broken = true;
            told.forEach(System.out::println);
            due.is("seed " + seed + ", call " + calls + ", " + name + " (got " + got + ", due " + want + ")", 0, 1);
        }
        return got;
    }

    private void run() {
        while (calls < limit && !broken) {
            int choice = random.nextInt(100);
            if (style == 3 ? choice < 70 : choice < 4) {
                forge();
            } else if (choice < (style == 4 ? 6 : 10)) {
                change();
            } else if (choice < 84) {
                sendAndHear();
            } else if (choice < 97) {
                ask();
            } else {
                disturb();
            }
        }
    }

    private int number(int bound) {
        return random.nextInt(40) == 0 ? random.nextInt(3 * bound + 6) - bound - 3 : random.nextInt(bound);
    }

    private int folder() {
        return number(2);
    }

    private byte[] content() {
        int pick = style == 4 ? random.nextInt(SIZES.length) : random.nextInt(5);
        return Wire.filled(SIZES[pick], 65 + random.nextInt(2));
    }

    private void feed(boolean data, byte[] bytes) {
        for (int from = 0; from < bytes.length; from += 8) {
            int n = random.nextInt(200) == 0 ? random.nextInt(12) - 1 : Math.min(8, bytes.length - from);
            long value = random.nextInt(100) == 0 ? random.nextLong() : 0;
            for (int i = 0; i < 8 && from + i < bytes.length; i++) {
                value = value << 8 | bytes[from + i] & 255;
            }
            long fed = value;
            both("feed(" + data + ", " + fed + ", " + n + ")",
                () -> link.feed(data, fed, n), () -> model.feed(data, fed, n));
        }
    }

    private void change() {
        int folder = folder();
        int choice = random.nextInt(10);
        if (choice < 6) {
            feed(false, Wire.bytes(NAMES[random.nextInt(NAMES.length)]));
            feed(true, content());
            both("write(" + folder + ")", () -> link.write(folder), () -> model.write(folder));
        } else if (choice < 7) {
            feed(false, Wire.bytes(NAMES[random.nextInt(NAMES.length)]));
            both("remove(" + folder + ")", () -> link.remove(folder) ? 1 : 0, () -> model.remove(folder));
        }
        if (choice > 2) {
            both("commit(" + folder + ")", () -> link.commit(folder), () -> model.commit(folder));
        }
    }

    private void sendAndHear() {
        int times = 1 + random.nextInt(10);
        int lossy = style == 2 ? 2 : 6;
        for (int t = 0; t < times; t++) {
            both("send()", () -> link.send(), () -> model.send());
            if (random.nextInt(lossy) != 0) {
                int slot = random.nextInt(30) == 0 ? number(32) : Math.max(0, model.sent - 1) % 32;
                hear(slot);
            }
        }
    }

    private void hear(int slot) {
        both("hear(" + slot + ")", () -> link.hear(slot), () -> model.hear(slot));
    }

    /** Makes a slot have a packet of a version, near what is known, that no sender made. */
    private void forge() {
        if (model.slots[0] == null) {
            return;
        }
        int folder = random.nextInt(8) == 0 ? 1 : 0;
        int version = 1 + random.nextInt(7);
        // A version has the same files whenever it is forged, but for a fault now and then.
        Random fixed = new Random(seed * 31L + version * 7 + folder);
        int files = fixed.nextInt(4);
        Object[] parts = new Object[2 * files];
        for (int k = 0; k < files; k++) {
            parts[2 * k] = "" + (char) ('a' + 2 * k + fixed.nextInt(2));
            parts[2 * k + 1] = Wire.filled(SIZES[fixed.nextInt(3) * 3], 65 + fixed.nextInt(2));
        }
        int item = random.nextInt(files + 1) % 7;
        byte[] bytes = item == 0 ? Wire.manifest(version, parts) : (byte[]) parts[2 * item - 1];
        if (random.nextInt(8) == 0 && bytes.length > 0) {
            bytes = bytes.clone();
            bytes[random.nextInt(Math.min(6, bytes.length))] ^= (byte) (1 << random.nextInt(8));
        }
        if (random.nextInt(12) == 0) {
            bytes = Wire.filled(random.nextInt(105), 65);
            item = random.nextInt(7);
        }
        int life = random.nextInt(60) == 0 ? model.greatestLife + random.nextInt(4) - 2 : model.greatestLife;
        int first = random.nextInt(Wire.blocks(bytes.length));
        int n = Wire.pieces(bytes.length, first);
        int from = random.nextInt(2 * n);
        for (int t = 0; t < 2 * n && t < 6; t++) {
            byte[] packet = Wire.packetOf(life, folder, version, item, bytes, first, (from + t) % (2 * n));
            if (random.nextInt(25) == 0) {
                packet[random.nextInt(8)] = (byte) random.nextInt(random.nextInt(2) == 0 ? 256 : 9);
                java.nio.ByteBuffer.wrap(packet).putLong(16, Wire.hash(packet, 16));
            }
            put(packet);
            hear(0);
        }
    }

    private void put(byte[] packet) {
        for (int i = 0; i < 24; i++) {
            int at = i;
            int bits = (model.slots[0][i] ^ packet[i]) & 255;
            if (bits != 0) {
                both("alter(0, " + at + ", " + bits + ")",
                    () -> voidly(() -> link.alter(0, at, bits)), () -> model.alter(0, at, bits));
            }
        }
    }

    private static long voidly(Runnable run) {
        run.run();
        return 0;
    }

    private void disturb() {
        int choice = random.nextInt(14);
        int slot = number(32);
        int at = number(24);
        int bits = random.nextInt(600);
        int kind = number(4);
        int value = kind == 0 ? number(97) : kind == 1 ? number(7) : random.nextInt(3) == 0 ? number(256) : 65 + random.nextInt(34);
        boolean on = random.nextInt(3) != 0;
        int k = number(Math.max(1, model.journal.size()));
        int what = number(4);
        if (choice < 3) {
            both("alter(" + slot + ", " + at + ", " + bits + ")",
                () -> voidly(() -> link.alter(slot, at, bits)), () -> model.alter(slot, at, bits));
            hear(slot);
        } else if (choice < 4) {
            both("restartSender()", () -> link.restartSender(), () -> model.restartSender());
        } else if (choice < 6) {
            both("restartReceiver()", () -> voidly(() -> link.restartReceiver()), () -> model.restartReceiver());
        } else if (choice < 12) {
            both("rule(" + kind + ", " + value + ", " + on + ")",
                () -> voidly(() -> link.rule(kind, value, on)), () -> model.rule(kind, value, on));
        } else {
            both("touch(" + k + ", " + what + ", " + bits + ")",
                () -> voidly(() -> link.touch(k, what, bits)), () -> model.touch(k, what, bits));
        }
    }

    private void ask() {
        int folder = folder();
        int version = number(9) + (random.nextInt(100) == 0 ? 65530 : 0);
        int item = number(7);
        int block = number(2);
        int k = number(Math.max(1, model.journal.size()));
        int what = number(5);
        int i = random.nextInt(8) - 1;
        boolean data = random.nextBoolean();
        switch (random.nextInt(9)) {
            case 0 -> both("have(" + folder + ", " + version + ")",
                () -> link.have(folder, version), () -> model.have(folder, version));
            case 1 -> both("rank(" + folder + ", " + version + ", " + item + ", " + block + ")",
                () -> link.rank(folder, version, item, block), () -> model.rank(folder, version, item, block));
            case 2 -> both("release(" + folder + ")", () -> link.release(folder), () -> model.release(folder));
            case 3 -> both("released(" + folder + ")", () -> link.released(folder), () -> model.released(folder));
            case 4 -> both("file(" + folder + ", " + item + ", " + i + ", " + data + ")",
                () -> link.file(folder, item / 2, i, data), () -> model.file(folder, item / 2, i, data));
            case 5 -> both("journal(" + k + ", " + what + ")",
                () -> link.journal(k, what), () -> model.journal(k, what));
            case 6 -> both("isSound()", () -> link.isSound() ? 1 : 0, () -> model.isSound());
            case 7 -> both("count(" + what + ")", () -> link.count(what), () -> model.count(what));
            default -> both("packet(" + 8 * block + ")",
                () -> link.packet(0, 8 * block), () -> model.packet(0, 8 * block));
        }
    }
}
