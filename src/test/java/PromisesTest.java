import java.util.Arrays;
import java.util.function.Consumer;
import java.util.function.ToIntFunction;

/** One method for each promise of the document: ordinary inputs, the edges it names, and wrong inputs. */
public final class PromisesTest {
    private static final int BAD_CHAIN = -1;
    private static final int BAD_BLOCK = -2;
    private static final int CHAIN_FULL = -3;
    private static final int NO_BACKUP = -4;

    private static final int MIN = Integer.MIN_VALUE;
    private static final int MAX = Integer.MAX_VALUE;
    private static final int[] WRONG_BLOCKS = {-1, 16, 17, -16, 32, MIN, MAX};
    private static final int[] WRONG_CHAINS = {-1, 2, 3, -2, MIN, MAX};

    private static int wrong = 0;

    public static void main(String[] args) {
        promise1NewObject();
        promise2Write();
        promise3Copy();
        promise3CopyOfEveryStretch();
        promise4Backup();
        promise5Restore();
        promise6DropOldest();
        promise7Drop();
        promise8Restart();
        promise9Crash();
        promise10Read();
        promise11ReadBackup();
        promise12Backups();
        promise13Changed();
        promise14Differ();
        System.out.println(wrong == 0 ? "all answers are as due" : wrong + " answers are not as due");
        if (wrong != 0) {
            System.exit(1);
        }
    }

    private static void promise1NewObject() {
        ChangedBlocks x = new ChangedBlocks();
        for (int block = 0; block < 16; block++) {
            due("1: read(" + block + ")", x.read(block), 0);
        }
        due("1: backups(0)", x.backups(0), 0);
        due("1: backups(1)", x.backups(1), 0);

        ChangedBlocks used = sample();
        ChangedBlocks other = new ChangedBlocks();
        due("1: read(0) beside a used object", other.read(0), 0);
        due("1: backups(0) beside a used object", other.backups(0), 0);
        due("1: the used object keeps its backups", used.backups(0), 4);
    }

    private static void promise2Write() {
        int[] values = {7, -7, 0, MIN, MAX};
        for (int block = 0; block < 16; block++) {
            ChangedBlocks x = new ChangedBlocks();
            for (int value : values) {
                due("2: write(" + block + ", " + value + ")", x.write(block, value), 0);
                due("2: read after write", x.read(block), value);
            }
            x.write(block, 5);
            for (int other = 0; other < 16; other++) {
                due("2: read(" + other + ") after write to " + block, x.read(other), other == block ? 5 : 0);
            }
        }
        for (int block : WRONG_BLOCKS) {
            due("2: write(" + block + ", 9)", new ChangedBlocks().write(block, 9), BAD_BLOCK);
            changesNothing("2: write(" + block + ", 9)", x -> x.write(block, 9));
        }
        ChangedBlocks x = sample();
        int[] kept = backupsOf(x);
        x.write(3, 12345);
        dueAll("2: a write leaves the backups alone", backupsOf(x), kept);
    }

    private static void promise3Copy() {
        ChangedBlocks x = numbered();
        due("3: copy apart", x.copy(0, 8, 3), 3);
        dueAll("3: copy apart", diskOf(x), new int[] {1, 2, 3, 4, 5, 6, 7, 8, 1, 2, 3, 12, 13, 14, 15, 16});

        x = numbered();
        due("3: copy overlapping upwards", x.copy(2, 4, 5), 5);
        dueAll("3: copy overlapping upwards", diskOf(x), new int[] {1, 2, 3, 4, 3, 4, 5, 6, 7, 10, 11, 12, 13, 14, 15, 16});

        x = numbered();
        due("3: copy overlapping downwards", x.copy(4, 2, 5), 5);
        dueAll("3: copy overlapping downwards", diskOf(x), new int[] {1, 2, 5, 6, 7, 8, 9, 8, 9, 10, 11, 12, 13, 14, 15, 16});

        int[][] empty = {{0, 0, 0}, {15, 15, 0}, {3, 9, -1}, {15, 0, -5}, {0, 15, MIN}};
        for (int[] c : empty) {
            due("3: copy" + Arrays.toString(c), numbered().copy(c[0], c[1], c[2]), 0);
            changesNothing("3: copy" + Arrays.toString(c), y -> y.copy(c[0], c[1], c[2]));
        }
        int[][] refused = {
            {0, 0, 17}, {1, 0, 16}, {0, 1, 16}, {15, 0, 2}, {0, 15, 2}, {8, 3, 9}, {3, 8, 9},
            {0, 0, MAX}, {15, 0, MAX}, {0, 15, MAX}, {1, 1, MAX}, {5, 9, MAX - 3},
        };
        for (int[] c : refused) {
            due("3: copy" + Arrays.toString(c), numbered().copy(c[0], c[1], c[2]), BAD_BLOCK);
            changesNothing("3: copy" + Arrays.toString(c), y -> y.copy(c[0], c[1], c[2]));
        }
        for (int block : WRONG_BLOCKS) {
            for (int n : new int[] {0, 1, -1, 16, MIN, MAX}) {
                due("3: copy(" + block + ", 0, " + n + ")", numbered().copy(block, 0, n), BAD_BLOCK);
                due("3: copy(0, " + block + ", " + n + ")", numbered().copy(0, block, n), BAD_BLOCK);
                changesNothing("3: copy(" + block + ", 0, " + n + ")", y -> y.copy(block, 0, n));
                changesNothing("3: copy(0, " + block + ", " + n + ")", y -> y.copy(0, block, n));
            }
        }
        x = sample();
        int[] kept = backupsOf(x);
        x.copy(0, 5, 7);
        dueAll("3: a copy leaves the backups alone", backupsOf(x), kept);
    }

    private static void promise3CopyOfEveryStretch() {
        for (int from = 0; from < 16; from++) {
            for (int to = 0; to < 16; to++) {
                for (int n = 0; n <= 17; n++) {
                    ChangedBlocks x = numbered();
                    int[] disk = diskOf(x);
                    boolean fits = from + n <= 16 && to + n <= 16;
                    if (fits) {
                        System.arraycopy(disk, from, disk, to, n);
                    }
                    String call = "3: copy(" + from + ", " + to + ", " + n + ")";
                    due(call, x.copy(from, to, n), fits ? n : BAD_BLOCK);
                    dueAll(call, diskOf(x), disk);
                }
            }
        }
    }

    private static void promise4Backup() {
        for (int chain = 0; chain < 2; chain++) {
            ChangedBlocks x = new ChangedBlocks();
            for (int number = 0; number < 6; number++) {
                x.write(number, number + 10);
                x.write(15, number + 20);
                due("4: backup(" + chain + ")", x.backup(chain), number);
                due("4: backups(" + chain + ")", x.backups(chain), number + 1);
                due("4: backups of the other chain", x.backups(1 - chain), 0);
            }
            for (int number = 0; number < 6; number++) {
                for (int block = 0; block < 15; block++) {
                    int want = block <= number ? block + 10 : 0;
                    due("4: readBackup", x.readBackup(chain, number, block), want);
                }
                due("4: readBackup of the last block", x.readBackup(chain, number, 15), number + 20);
            }
            x.write(7, 70);
            due("4: a seventh backup", x.backup(chain), CHAIN_FULL);
        }
        ChangedBlocks refusing = full();
        refusing.backup(0);
        dueAll("4: a seventh backup changes nothing", everyAnswer(refusing), everyAnswer(full()));
        ChangedBlocks x = full();
        due("4: backup(1) while chain 0 is full", x.backup(1), 0);
        x = full();
        x.dropOldest(0);
        due("4: backup(0) after a full chain lost one", x.backup(0), 5);
        due("4: its content", x.readBackup(0, 5, 0), 99);

        x = sample();
        int[] disk = diskOf(x);
        x.backup(1);
        dueAll("4: a backup leaves the disk alone", diskOf(x), disk);
        for (int chain : WRONG_CHAINS) {
            due("4: backup(" + chain + ")", sample().backup(chain), BAD_CHAIN);
            due("4: backup(" + chain + ") beside a full chain", full().backup(chain), BAD_CHAIN);
            changesNothing("4: backup(" + chain + ")", y -> y.backup(chain));
        }
    }

    private static void promise5Restore() {
        for (int chain = 0; chain < 2; chain++) {
            for (int k = 0; k < sample().backups(chain); k++) {
                ChangedBlocks x = sample();
                int[] kept = backupsOf(x);
                int[] before = diskOf(x);
                int[] image = imageOf(x, chain, k);
                String call = "5: restore(" + chain + ", " + k + ")";
                due(call, x.restore(chain, k), differing(before, image));
                dueAll(call + " gives the disk", diskOf(x), image);
                due(call + " again", x.restore(chain, k), 0);
                dueAll(call + " leaves the chains alone", backupsOf(x), kept);
            }
        }
        ChangedBlocks x = numbered();
        x.backup(0);
        for (int block = 0; block < 16; block++) {
            x.write(block, -1);
        }
        due("5: restore of all blocks", x.restore(0, 0), 16);
        x.write(4, 77);
        x.write(4, 5);
        due("5: restore after a block was written back", x.restore(0, 0), 0);
        x.write(0, 50);
        x.restore(0, 0);
        x.write(0, 51);
        due("5: a write after a restore leaves the backup alone", x.readBackup(0, 0, 0), 1);

        for (int chain : WRONG_CHAINS) {
            for (int k : new int[] {0, -1, 6, MIN, MAX}) {
                due("5: restore(" + chain + ", " + k + ")", sample().restore(chain, k), BAD_CHAIN);
                changesNothing("5: restore(" + chain + ", " + k + ")", y -> y.restore(chain, k));
            }
        }
        for (int k : new int[] {-1, 4, 5, 6, 7, MIN, MAX}) {
            due("5: restore(0, " + k + ")", sample().restore(0, k), NO_BACKUP);
            changesNothing("5: restore(0, " + k + ")", y -> y.restore(0, k));
        }
        due("5: restore(1, 3), the number of one of chain 0", sample().restore(1, 3), NO_BACKUP);
        due("5: restore of an empty chain", new ChangedBlocks().restore(0, 0), NO_BACKUP);
        due("5: restore(0, 5) of a full chain", full().restore(0, 5), 1);
        due("5: restore(0, 6) of a full chain", full().restore(0, 6), NO_BACKUP);
    }

    private static void promise6DropOldest() {
        for (int c = 0; c < 2; c++) {
            int chain = c;
            dropsOne("6: dropOldest(" + chain + ")", chain, 0, x -> x.dropOldest(chain));
        }
        ChangedBlocks x = full();
        for (int left = 5; left >= 0; left--) {
            due("6: dropOldest(0)", x.dropOldest(0), left);
            due("6: backups(0)", x.backups(0), left);
            for (int k = 0; k < left; k++) {
                due("6: readBackup(0, " + k + ", 0)", x.readBackup(0, k, 0), 1 + (5 - left) + 1 + k);
            }
            due("6: the number that went", x.readBackup(0, left, 0), 0);
        }
        due("6: dropOldest(0) of an empty chain", x.dropOldest(0), NO_BACKUP);
        due("6: backups(0) after it", x.backups(0), 0);
        due("6: backup(0) after it", x.backup(0), 0);
        for (int chain : WRONG_CHAINS) {
            due("6: dropOldest(" + chain + ")", sample().dropOldest(chain), BAD_CHAIN);
            due("6: dropOldest(" + chain + ") of a new object", new ChangedBlocks().dropOldest(chain), BAD_CHAIN);
            changesNothing("6: dropOldest(" + chain + ")", y -> y.dropOldest(chain));
        }
    }

    private static void promise7Drop() {
        for (int c = 0; c < 2; c++) {
            int chain = c;
            for (int i = 0; i < sample().backups(chain); i++) {
                int k = i;
                dropsOne("7: drop(" + chain + ", " + k + ")", chain, k, x -> x.drop(chain, k));
            }
        }
        for (int k = 0; k < 6; k++) {
            ChangedBlocks x = full();
            due("7: drop(0, " + k + ") of a full chain", x.drop(0, k), 5);
            for (int i = 0; i < 5; i++) {
                due("7: readBackup after it", x.readBackup(0, i, 0), i < k ? i + 1 : i + 2);
            }
            due("7: the last number again", x.drop(0, 5), NO_BACKUP);
            due("7: backup(0) after it", x.backup(0), 5);
        }
        ChangedBlocks x = sample();
        x.drop(0, 3);
        due("7: changed(0) goes by the newest that is left", x.changed(0), differing(diskOf(x), imageOf(x, 0, 2)));

        for (int chain : WRONG_CHAINS) {
            for (int k : new int[] {0, -1, 6, MIN, MAX}) {
                due("7: drop(" + chain + ", " + k + ")", sample().drop(chain, k), BAD_CHAIN);
                changesNothing("7: drop(" + chain + ", " + k + ")", y -> y.drop(chain, k));
            }
        }
        for (int k : new int[] {-1, 4, 5, 6, 7, MIN, MAX}) {
            due("7: drop(0, " + k + ")", sample().drop(0, k), NO_BACKUP);
            changesNothing("7: drop(0, " + k + ")", y -> y.drop(0, k));
        }
        due("7: drop(1, 3), the number of one of chain 0", sample().drop(1, 3), NO_BACKUP);
        due("7: drop of an empty chain", new ChangedBlocks().drop(0, 0), NO_BACKUP);
    }

    private static void promise8Restart() {
        changesNothing("8: restart()", ChangedBlocks::restart);
        stopChangesNothingLater("8: restart()", ChangedBlocks::restart);
    }

    private static void promise9Crash() {
        changesNothing("9: crash()", ChangedBlocks::crash);
        stopChangesNothingLater("9: crash()", ChangedBlocks::crash);
        changesNothing("9: crash(), restart(), crash()", x -> {
            x.crash();
            x.restart();
            x.crash();
        });
    }

    private static void promise10Read() {
        ChangedBlocks x = numbered();
        for (int block = 0; block < 16; block++) {
            due("10: read(" + block + ")", x.read(block), block + 1);
        }
        for (int block : WRONG_BLOCKS) {
            due("10: read(" + block + ")", x.read(block), 0);
            changesNothing("10: read(" + block + ")", y -> y.read(block));
        }
        changesNothing("10: read(3)", y -> y.read(3));
    }

    private static void promise11ReadBackup() {
        ChangedBlocks x = numbered();
        x.backup(1);
        x.write(2, 40);
        x.backup(1);
        x.write(2, 50);
        for (int block = 0; block < 16; block++) {
            due("11: readBackup(1, 0, " + block + ")", x.readBackup(1, 0, block), block + 1);
            due("11: readBackup(1, 1, " + block + ")", x.readBackup(1, 1, block), block == 2 ? 40 : block + 1);
            due("11: readBackup(0, 0, " + block + ")", x.readBackup(0, 0, block), 0);
        }
        for (int block : WRONG_BLOCKS) {
            due("11: readBackup(1, 0, " + block + ")", x.readBackup(1, 0, block), 0);
            due("11: readBackup(1, 1, " + block + ")", x.readBackup(1, 1, block), 0);
        }
        for (int k : new int[] {-1, 2, 5, 6, MIN, MAX}) {
            due("11: readBackup(1, " + k + ", 0)", x.readBackup(1, k, 0), 0);
        }
        for (int chain : WRONG_CHAINS) {
            due("11: readBackup(" + chain + ", 0, 0)", x.readBackup(chain, 0, 0), 0);
            changesNothing("11: readBackup(" + chain + ", 0, 0)", y -> y.readBackup(chain, 0, 0));
        }
        due("11: everything wrong", x.readBackup(MIN, MAX, MIN), 0);
        x.drop(1, 1);
        due("11: a backup that was dropped", x.readBackup(1, 1, 2), 0);
        changesNothing("11: readBackup(0, 1, 3)", y -> y.readBackup(0, 1, 3));
    }

    private static void promise12Backups() {
        ChangedBlocks x = sample();
        due("12: backups(0)", x.backups(0), 4);
        due("12: backups(1)", x.backups(1), 3);
        due("12: backups(0) of a full chain", full().backups(0), 6);
        due("12: backups(1) beside it", full().backups(1), 0);
        for (int chain : WRONG_CHAINS) {
            due("12: backups(" + chain + ")", x.backups(chain), BAD_CHAIN);
            changesNothing("12: backups(" + chain + ")", y -> y.backups(chain));
        }
        changesNothing("12: backups(0)", y -> y.backups(0));
    }

    private static void promise13Changed() {
        for (int chain = 0; chain < 2; chain++) {
            ChangedBlocks x = numbered();
            due("13: changed of an empty chain", x.changed(chain), NO_BACKUP);
            x.backup(chain);
            due("13: changed right after a backup", x.changed(chain), 0);
            due("13: changed of the other chain", x.changed(1 - chain), NO_BACKUP);
            for (int block = 0; block < 16; block++) {
                x.write(block, block + 1);
                due("13: changed after the same content", x.changed(chain), block);
                x.write(block, -1);
                due("13: changed after a write", x.changed(chain), block + 1);
                x.write(block, -2);
                due("13: changed after a second write", x.changed(chain), block + 1);
            }
            x.write(6, 7);
            due("13: changed after a block was written back", x.changed(chain), 15);
            x.backup(chain);
            due("13: changed goes by the newest", x.changed(chain), 0);
            x.restore(chain, 0);
            due("13: changed after a restore of an older one", x.changed(chain), 15);
            x.dropOldest(chain);
            due("13: changed after the older one went", x.changed(chain), 15);
            x.drop(chain, 0);
            due("13: changed of a chain empty again", x.changed(chain), NO_BACKUP);
        }
        ChangedBlocks x = numbered();
        x.backup(0);
        x.copy(0, 8, 4);
        due("13: changed after a copy", x.changed(0), 4);
        x.write(0, 100);
        x.backup(1);
        due("13: a backup of chain 1 is none of chain 0", x.changed(0), 5);
        due("13: changed(1)", x.changed(1), 0);
        x.write(1, MIN);
        x.backup(1);
        x.write(1, MAX);
        due("13: changed between the ends of int", x.changed(1), 1);
        for (int chain : WRONG_CHAINS) {
            due("13: changed(" + chain + ")", x.changed(chain), BAD_CHAIN);
            due("13: changed(" + chain + ") of a new object", new ChangedBlocks().changed(chain), BAD_CHAIN);
            changesNothing("13: changed(" + chain + ")", y -> y.changed(chain));
        }
        changesNothing("13: changed(0)", y -> y.changed(0));
    }

    private static void promise14Differ() {
        ChangedBlocks x = full();
        for (int block = 0; block < 16; block++) {
            x.write(block, -block - 1);
        }
        x.drop(0, 0);
        x.backup(0);
        due("14: differ in all blocks", x.differ(0, 0, 5), 16);
        due("14: the same the other way round", x.differ(0, 5, 0), 16);
        due("14: differ in one block", x.differ(0, 1, 2), 1);
        for (int k = 0; k < 6; k++) {
            due("14: a backup and itself", x.differ(0, k, k), 0);
        }
        for (int chain = 0; chain < 2; chain++) {
            int count = sample().backups(chain);
            for (int j = 0; j < count; j++) {
                for (int k = 0; k < count; k++) {
                    ChangedBlocks y = sample();
                    int want = differing(imageOf(y, chain, j), imageOf(y, chain, k));
                    due("14: differ(" + chain + ", " + j + ", " + k + ")", y.differ(chain, j, k), want);
                }
            }
        }
        for (int k : new int[] {-1, 4, 5, 6, 7, MIN, MAX}) {
            ChangedBlocks y = sample();
            due("14: differ(0, 0, " + k + ")", y.differ(0, 0, k), NO_BACKUP);
            due("14: differ(0, " + k + ", 0)", y.differ(0, k, 0), NO_BACKUP);
            due("14: differ(0, " + k + ", " + k + ")", y.differ(0, k, k), NO_BACKUP);
            changesNothing("14: differ(0, 0, " + k + ")", z -> z.differ(0, 0, k));
        }
        due("14: differ(1, 0, 3), the number of one of chain 0", sample().differ(1, 0, 3), NO_BACKUP);
        due("14: differ of an empty chain", new ChangedBlocks().differ(1, 0, 0), NO_BACKUP);
        for (int chain : WRONG_CHAINS) {
            due("14: differ(" + chain + ", 0, 0)", sample().differ(chain, 0, 0), BAD_CHAIN);
            due("14: differ(" + chain + ", -1, 6)", sample().differ(chain, -1, 6), BAD_CHAIN);
            changesNothing("14: differ(" + chain + ", 0, 0)", z -> z.differ(chain, 0, 0));
        }
        changesNothing("14: differ(0, 0, 1)", z -> z.differ(0, 0, 1));
    }

    /** Four backups in chain 0, three in chain 1, all different, and a disk that is like none of them. */
    private static ChangedBlocks sample() {
        ChangedBlocks x = numbered();
        x.backup(0);
        x.write(3, 103);
        x.backup(1);
        x.write(4, 104);
        x.write(15, 115);
        x.backup(0);
        x.copy(0, 6, 4);
        x.backup(1);
        x.write(0, -1);
        x.backup(0);
        x.write(3, 4);
        x.backup(1);
        x.write(11, 0);
        x.write(12, 0);
        x.backup(0);
        x.write(1, 201);
        x.write(12, 212);
        return x;
    }

    /** A disk with the contents 1 to 16, and no backup. */
    private static ChangedBlocks numbered() {
        ChangedBlocks x = new ChangedBlocks();
        for (int block = 0; block < 16; block++) {
            x.write(block, block + 1);
        }
        return x;
    }

    /** Six backups in chain 0, whose block 0 has 1 to 6; on the disk it has 99. */
    private static ChangedBlocks full() {
        ChangedBlocks x = new ChangedBlocks();
        for (int number = 0; number < 6; number++) {
            x.write(0, number + 1);
            x.backup(0);
        }
        x.write(0, 99);
        return x;
    }

    /** A stop at each place of a run must leave every answer of the rest of the run as it is without the stop. */
    private static void stopChangesNothingLater(String name, Consumer<ChangedBlocks> stop) {
        int steps = 24;
        for (int place = 0; place <= steps; place++) {
            ChangedBlocks plain = new ChangedBlocks();
            ChangedBlocks stopped = new ChangedBlocks();
            for (int step = 0; step < steps; step++) {
                if (step == place) {
                    stop.accept(stopped);
                }
                due(name + " before step " + place + ", at step " + step, runStep(stopped, step), runStep(plain, step));
            }
            if (place == steps) {
                stop.accept(stopped);
            }
            dueAll(name + " before step " + place, everyAnswer(stopped), everyAnswer(plain));
        }
    }

    private static int runStep(ChangedBlocks x, int step) {
        switch (step % 8) {
            case 0: return x.write(step % 16, step + 1);
            case 1: return x.backup(0);
            case 2: return x.copy(0, 5, 4);
            case 3: return x.changed(0);
            case 4: return x.backup(1);
            case 5: return x.write(step % 7, step);
            case 6: return x.backup(0);
            default: return step == 15 ? x.restore(0, 1) : x.dropOldest(0);
        }
    }

    /** One backup of one chain goes, the others of that chain close up, and nothing else changes. */
    private static void dropsOne(String name, int chain, int k, ToIntFunction<ChangedBlocks> call) {
        ChangedBlocks x = sample();
        int[] disk = diskOf(x);
        int count = x.backups(chain);
        int otherCount = x.backups(1 - chain);
        due(name, call.applyAsInt(x), count - 1);
        ChangedBlocks before = sample();
        due(name + ": backups", x.backups(chain), count - 1);
        due(name + ": backups of the other chain", x.backups(1 - chain), otherCount);
        dueAll(name + ": the disk", diskOf(x), disk);
        for (int i = 0; i < count - 1; i++) {
            dueAll(name + ": backup " + i, imageOf(x, chain, i), imageOf(before, chain, i < k ? i : i + 1));
        }
        for (int i = 0; i < otherCount; i++) {
            dueAll(name + ": backup " + i + " of the other chain", imageOf(x, 1 - chain, i), imageOf(before, 1 - chain, i));
        }
    }

    private static void changesNothing(String name, Consumer<ChangedBlocks> call) {
        ChangedBlocks x = sample();
        call.accept(x);
        dueAll(name + " changes nothing", everyAnswer(x), everyAnswer(sample()));
    }

    /** 284 calls, so that an object stays within its 512. */
    private static int[] everyAnswer(ChangedBlocks x) {
        int[] answers = new int[16 + 192 + 2 + 2 + 72];
        int at = 0;
        for (int value : diskOf(x)) {
            answers[at++] = value;
        }
        for (int chain = 0; chain < 2; chain++) {
            answers[at++] = x.backups(chain);
            answers[at++] = x.changed(chain);
            for (int k = 0; k < 6; k++) {
                for (int value : imageOf(x, chain, k)) {
                    answers[at++] = value;
                }
                for (int j = 0; j < 6; j++) {
                    answers[at++] = x.differ(chain, j, k);
                }
            }
        }
        return answers;
    }

    private static int[] backupsOf(ChangedBlocks x) {
        int[] answers = new int[2 + 192];
        int at = 0;
        for (int chain = 0; chain < 2; chain++) {
            answers[at++] = x.backups(chain);
            for (int k = 0; k < 6; k++) {
                for (int value : imageOf(x, chain, k)) {
                    answers[at++] = value;
                }
            }
        }
        return answers;
    }

    private static int[] diskOf(ChangedBlocks x) {
        int[] disk = new int[16];
        for (int block = 0; block < 16; block++) {
            disk[block] = x.read(block);
        }
        return disk;
    }

    private static int[] imageOf(ChangedBlocks x, int chain, int k) {
        int[] image = new int[16];
        for (int block = 0; block < 16; block++) {
            image[block] = x.readBackup(chain, k, block);
        }
        return image;
    }

    private static int differing(int[] a, int[] b) {
        int count = 0;
        for (int i = 0; i < 16; i++) {
            if (a[i] != b[i]) {
                count++;
            }
        }
        return count;
    }

    private static void due(String call, int got, int want) {
        if (got != want) {
            wrong++;
            System.out.println(call + " answered " + got + ", due is " + want);
        }
    }

    private static void dueAll(String call, int[] got, int[] want) {
        if (!Arrays.equals(got, want)) {
            wrong++;
            System.out.println(call + ": got " + Arrays.toString(got) + ", due is " + Arrays.toString(want));
        }
    }
}
