import java.util.Arrays;
import java.util.function.Consumer;
import java.util.function.ToIntFunction;

/** A test of its own for each sentence of the document that names a boundary case. */
public final class BoundaryTest {
    private static final int BAD_CHAIN = -1;
    private static final int BAD_BLOCK = -2;
    private static final int CHAIN_FULL = -3;
    private static final int NO_BACKUP = -4;

    private static final int MIN = Integer.MIN_VALUE;
    private static final int MAX = Integer.MAX_VALUE;

    // Beside the nearest and the farthest numbers, those that look like a right one once they are cut to
    // 8, 16 or 28 bits or multiplied by sixteen or by the 96 cells of six images.
    private static final int[] FAR = {
        MIN, MIN + 1, MIN + 15, -65536, -256, -96, 96, 256, 65536, 1 << 27, 1 << 28, (1 << 28) + 1, 1 << 30, MAX - 15, MAX - 1, MAX,
    };
    private static final int[] WRONG_CHAINS = with(FAR, -3, -2, -1, 2, 3, 4, 6, 16);
    private static final int[] WRONG_BLOCKS = with(FAR, -17, -16, -15, -2, -1, 16, 17, 18, 31, 32);
    private static final int[] ODD_ARGUMENTS = {MIN, MIN + 1, -16, -1, 0, 1, 2, 5, 6, 15, 16, 17, MAX - 1, MAX};

    // How many backups chain 0 and chain 1 have in the objects that a test looks at.
    private static final int[][] STATES = {{0, 0}, {0, 6}, {6, 0}, {1, 4}, {3, 1}, {5, 6}, {6, 6}};

    private static final int LATER_CALLS = 18;

    // The whole test takes a second or two.
    private static final long MOST_MILLIS = 300_000;

    private static volatile String sentence = "";
    private static int wrong = 0;

    public static void main(String[] args) {
        failIfACallDoesNotEnd();
        test("What it is: sixteen blocks, one int each", BoundaryTest::everyBitOfABlockCounts);
        test("Terms: a chain has at most six backups", BoundaryTest::termsAtMostSix);
        test("Terms: numbered from 0 for its oldest one", BoundaryTest::termsOldestIsZero);
        test("Terms: A chain not 0 or 1 is BAD_CHAIN, tested first", BoundaryTest::termsChainIsTestedFirst);
        test("Terms: a refused call changes nothing", BoundaryTest::termsRefusedCallChangesNothing);
        test("Terms: The calls below change nothing that any call answers", BoundaryTest::termsAskingChangesNothing);
        test("Promise 1: All blocks 0", BoundaryTest::newDiskIsAllZero);
        test("Promise 1: both chains empty", BoundaryTest::newChainsAreEmpty);
        test("Promise 2: block not in 0 to 15: BAD_BLOCK", BoundaryTest::writeOutsideTheDisk);
        test("Promise 3: the two stretches may overlap", BoundaryTest::copyOverlapping);
        test("Promise 3: n below 0 counts as 0", BoundaryTest::copyOfLessThanNothing);
        test("Promise 3: from or to not in 0 to 15: BAD_BLOCK", BoundaryTest::copyOutsideTheDisk);
        test("Promise 3: one stretch goes beyond block 15: BAD_BLOCK", BoundaryTest::copyBeyondTheLastBlock);
        test("Promise 4: BAD_CHAIN", BoundaryTest::backupOfNoChain);
        test("Promise 4: the chain has six: CHAIN_FULL", BoundaryTest::backupOfFullChain);
        test("Promise 5: BAD_CHAIN", BoundaryTest::restoreOfNoChain);
        test("Promise 5: no such backup: NO_BACKUP", BoundaryTest::restoreOfNoBackup);
        test("Promise 6: BAD_CHAIN", BoundaryTest::dropOldestOfNoChain);
        test("Promise 6: the chain is empty: NO_BACKUP", BoundaryTest::dropOldestOfEmptyChain);
        test("Promise 7: BAD_CHAIN", BoundaryTest::dropOfNoChain);
        test("Promise 7: no such backup: NO_BACKUP", BoundaryTest::dropOfNoBackup);
        test("Promise 8: restart changes nothing that any call answers", BoundaryTest::restartChangesNothing);
        test("Promise 9: crash changes nothing that any call answers", BoundaryTest::crashChangesNothing);
        test("Promise 10: 0 if block not in 0 to 15", BoundaryTest::readOutsideTheDisk);
        test("Promise 11: 0 if the chain doesn't exist", BoundaryTest::readBackupOfNoChain);
        test("Promise 11: 0 if the backup doesn't exist", BoundaryTest::readBackupOfNoBackup);
        test("Promise 11: 0 if the block doesn't exist", BoundaryTest::readBackupOutsideTheDisk);
        test("Promise 12: How many backups a chain has", BoundaryTest::backupsFromNoneToSix);
        test("Promise 12: BAD_CHAIN", BoundaryTest::backupsOfNoChain);
        test("Promise 13: BAD_CHAIN", BoundaryTest::changedOfNoChain);
        test("Promise 13: the chain is empty: NO_BACKUP", BoundaryTest::changedOfEmptyChain);
        test("Promise 14: BAD_CHAIN", BoundaryTest::differOfNoChain);
        test("Promise 14: one of them doesn't exist: NO_BACKUP", BoundaryTest::differOfNoBackup);
        test("LANGUAGE.md 7: no call may ever throw or fail to end", BoundaryTest::noCallThrows);
        System.out.println(wrong == 0 ? "all answers are as due" : wrong + " answers are not as due");
        if (wrong != 0) {
            System.exit(1);
        }
    }

    private static void everyBitOfABlockCounts() {
        for (int before : new int[] {0, -1, 0x12345678}) {
            for (int bit = 0; bit < 32; bit++) {
                for (int block : new int[] {1, 8, 14}) {
                    oneBitCounts(0, block, before, before ^ 1 << bit);
                    oneBitCounts(1, block, before, before ^ 1 << bit);
                }
            }
        }
    }

    private static void oneBitCounts(int chain, int block, int before, int after) {
        String of = "block " + block + " from " + before + " to " + after + ", chain " + chain + ": ";
        ChangedBlocks x = new ChangedBlocks();
        x.write(block, before);
        x.backup(chain);
        x.write(block, after);
        due(of + "read", x.read(block), after);
        due(of + "changed", x.changed(chain), 1);
        x.backup(chain);
        due(of + "differ", x.differ(chain, 0, 1), 1);
        due(of + "readBackup of the first", x.readBackup(chain, 0, block), before);
        due(of + "readBackup of the second", x.readBackup(chain, 1, block), after);
        due(of + "restore of the first", x.restore(chain, 0), 1);
        due(of + "read after it", x.read(block), before);
        due(of + "restore of the second", x.restore(chain, 1), 1);
        due(of + "read after it", x.read(block), after);
        x.copy(block, block - 1, 1);
        due(of + "read after a copy to the block before", x.read(block - 1), after);
        x.copy(block, block + 1, 1);
        due(of + "read after a copy to the block behind", x.read(block + 1), after);
        x.drop(chain, 0);
        due(of + "readBackup after a drop", x.readBackup(chain, 0, block), after);
    }

    private static void termsAtMostSix() {
        for (int chain = 0; chain < 2; chain++) {
            ChangedBlocks x = new ChangedBlocks();
            for (int number = 0; number < 6; number++) {
                due("backup(" + chain + ")", x.backup(chain), number);
            }
            for (int more = 0; more < 20; more++) {
                x.backup(chain);
                due("backups(" + chain + ") after backup " + (7 + more), x.backups(chain), 6);
            }
            due("readBackup(" + chain + ", 6, 0)", x.readBackup(chain, 6, 0), 0);
            for (int number = 0; number < 6; number++) {
                due("backup of the other chain", x.backup(1 - chain), number);
            }
            due("backups(" + chain + ") beside a full chain", x.backups(chain), 6);
            due("backups of the other chain", x.backups(1 - chain), 6);
        }
    }

    private static void termsOldestIsZero() {
        for (int[] state : STATES) {
            for (int chain = 0; chain < 2; chain++) {
                ChangedBlocks x = made(state);
                for (int k = 0; k < state[chain]; k++) {
                    dueAll(name(state) + " backup " + k + " of chain " + chain, imageOf(x, chain, k), imageDue(state, chain, k));
                }
                for (int gone = 0; gone < state[chain]; gone++) {
                    x = made(state);
                    x.drop(chain, gone);
                    for (int k = 0; k < state[chain] - 1; k++) {
                        int[] due = imageDue(state, chain, k < gone ? k : k + 1);
                        dueAll(name(state) + " backup " + k + " of chain " + chain + " without " + gone, imageOf(x, chain, k), due);
                    }
                }
            }
        }
    }

    private static void termsChainIsTestedFirst() {
        for (int[] state : STATES) {
            for (int chain : WRONG_CHAINS) {
                ChangedBlocks x = made(state);
                String of = name(state) + " chain " + chain;
                due(of + " backup", x.backup(chain), BAD_CHAIN);
                due(of + " dropOldest", x.dropOldest(chain), BAD_CHAIN);
                due(of + " backups", x.backups(chain), BAD_CHAIN);
                due(of + " changed", x.changed(chain), BAD_CHAIN);
                for (int k : ODD_ARGUMENTS) {
                    due(of + " restore of " + k, x.restore(chain, k), BAD_CHAIN);
                    due(of + " drop of " + k, x.drop(chain, k), BAD_CHAIN);
                    due(of + " differ of " + k + " and 0", x.differ(chain, k, 0), BAD_CHAIN);
                    due(of + " differ of 0 and " + k, x.differ(chain, 0, k), BAD_CHAIN);
                    due(of + " differ of " + k + " and itself", x.differ(chain, k, k), BAD_CHAIN);
                }
            }
        }
    }

    private static void termsRefusedCallChangesNothing() {
        for (int[] state : STATES) {
            for (int chain : WRONG_CHAINS) {
                refused(state, "backup(" + chain + ")", x -> x.backup(chain), BAD_CHAIN);
                refused(state, "restore(" + chain + ", 0)", x -> x.restore(chain, 0), BAD_CHAIN);
                refused(state, "dropOldest(" + chain + ")", x -> x.dropOldest(chain), BAD_CHAIN);
                refused(state, "drop(" + chain + ", 0)", x -> x.drop(chain, 0), BAD_CHAIN);
            }
            for (int block : WRONG_BLOCKS) {
                refused(state, "write(" + block + ", 5)", x -> x.write(block, 5), BAD_BLOCK);
                refused(state, "copy(" + block + ", 3, 2)", x -> x.copy(block, 3, 2), BAD_BLOCK);
                refused(state, "copy(3, " + block + ", 2)", x -> x.copy(3, block, 2), BAD_BLOCK);
            }
            refused(state, "copy(1, 0, 16)", x -> x.copy(1, 0, 16), BAD_BLOCK);
            refused(state, "copy(0, 1, 16)", x -> x.copy(0, 1, 16), BAD_BLOCK);
            refused(state, "copy(2, 14, 3)", x -> x.copy(2, 14, 3), BAD_BLOCK);
            refused(state, "copy(14, 2, 3)", x -> x.copy(14, 2, 3), BAD_BLOCK);
            refused(state, "copy(4, 7, MAX)", x -> x.copy(4, 7, MAX), BAD_BLOCK);
            for (int c = 0; c < 2; c++) {
                int chain = c;
                if (state[chain] == 6) {
                    refused(state, "backup(" + chain + ")", x -> x.backup(chain), CHAIN_FULL);
                }
                if (state[chain] == 0) {
                    refused(state, "dropOldest(" + chain + ")", x -> x.dropOldest(chain), NO_BACKUP);
                }
                for (int k : missing(state[chain])) {
                    refused(state, "restore(" + chain + ", " + k + ")", x -> x.restore(chain, k), NO_BACKUP);
                    refused(state, "drop(" + chain + ", " + k + ")", x -> x.drop(chain, k), NO_BACKUP);
                }
            }
        }
    }

    private static void termsAskingChangesNothing() {
        for (int[] state : STATES) {
            for (int a : ODD_ARGUMENTS) {
                keepsAll(state, "read(" + a + ")", x -> x.read(a));
                keepsAll(state, "backups(" + a + ")", x -> x.backups(a));
                keepsAll(state, "changed(" + a + ")", x -> x.changed(a));
                keepsAll(state, "readBackup(" + a + ", 0, 0)", x -> x.readBackup(a, 0, 0));
                keepsAll(state, "differ(" + a + ", 0, 0)", x -> x.differ(a, 0, 0));
                for (int c = 0; c < 2; c++) {
                    int chain = c;
                    keepsAll(state, "readBackup(" + chain + ", " + a + ", 7)", x -> x.readBackup(chain, a, 7));
                    keepsAll(state, "readBackup(" + chain + ", 0, " + a + ")", x -> x.readBackup(chain, 0, a));
                    keepsAll(state, "differ(" + chain + ", " + a + ", 0)", x -> x.differ(chain, a, 0));
                    keepsAll(state, "differ(" + chain + ", 0, " + a + ")", x -> x.differ(chain, 0, a));
                }
            }
        }
    }

    private static void newDiskIsAllZero() {
        ChangedBlocks used = made(new int[] {6, 6});
        ChangedBlocks x = new ChangedBlocks();
        for (int block = 0; block < 16; block++) {
            due("read(" + block + ")", x.read(block), 0);
        }
        x.backup(1);
        for (int block = 0; block < 16; block++) {
            due("readBackup(1, 0, " + block + ") of the first backup", x.readBackup(1, 0, block), 0);
        }
        dueAll("the disk of an object made before", diskOf(used), diskDue(new int[] {6, 6}));
    }

    private static void newChainsAreEmpty() {
        ChangedBlocks used = made(new int[] {6, 6});
        for (int chain = 0; chain < 2; chain++) {
            ChangedBlocks x = new ChangedBlocks();
            due("backups(" + chain + ")", x.backups(chain), 0);
            due("changed(" + chain + ")", x.changed(chain), NO_BACKUP);
            due("dropOldest(" + chain + ")", x.dropOldest(chain), NO_BACKUP);
            due("drop(" + chain + ", 0)", x.drop(chain, 0), NO_BACKUP);
            due("restore(" + chain + ", 0)", x.restore(chain, 0), NO_BACKUP);
            due("differ(" + chain + ", 0, 0)", x.differ(chain, 0, 0), NO_BACKUP);
            due("backup(" + chain + ")", x.backup(chain), 0);
            due("backups of an object made before", used.backups(chain), 6);
        }
    }

    private static void writeOutsideTheDisk() {
        for (int block : WRONG_BLOCKS) {
            for (int value : new int[] {0, 1, -1, MIN, MAX}) {
                ChangedBlocks x = made(new int[] {1, 1});
                int[] disk = diskOf(x);
                due("write(" + block + ", " + value + ")", x.write(block, value), BAD_BLOCK);
                dueAll("the disk after write(" + block + ", " + value + ")", diskOf(x), disk);
            }
        }
        for (int block = 0; block < 16; block++) {
            ChangedBlocks x = made(new int[] {1, 1});
            for (int value : new int[] {0, 1, -1, MIN, MAX}) {
                due("write(" + block + ", " + value + ")", x.write(block, value), 0);
                due("read(" + block + ")", x.read(block), value);
            }
        }
    }

    private static void copyOverlapping() {
        for (int from = 0; from < 16; from++) {
            for (int to = 0; to < 16; to++) {
                int longest = 16 - (from > to ? from : to);
                int distance = from > to ? from - to : to - from;
                for (int n = distance + 1; n <= longest; n++) {
                    ChangedBlocks x = made(new int[] {2, 2});
                    int[] before = diskOf(x);
                    int[] after = before.clone();
                    for (int i = 0; i < n; i++) {
                        after[to + i] = before[from + i];
                    }
                    String call = "copy(" + from + ", " + to + ", " + n + ")";
                    due(call, x.copy(from, to, n), n);
                    dueAll("the disk after " + call, diskOf(x), after);
                }
            }
        }
    }

    private static void copyOfLessThanNothing() {
        for (int n : new int[] {MIN, MIN + 1, MIN + 16, -65536, -256, -17, -16, -15, -2, -1, 0}) {
            for (int from : new int[] {0, 1, 7, 14, 15}) {
                for (int to : new int[] {0, 1, 7, 14, 15}) {
                    ChangedBlocks x = made(new int[] {2, 2});
                    int[] disk = diskOf(x);
                    String call = "copy(" + from + ", " + to + ", " + n + ")";
                    due(call, x.copy(from, to, n), 0);
                    dueAll("the disk after " + call, diskOf(x), disk);
                }
            }
        }
    }

    private static void copyOutsideTheDisk() {
        for (int block : WRONG_BLOCKS) {
            for (int n : ODD_ARGUMENTS) {
                for (int right : new int[] {0, 8, 15}) {
                    ChangedBlocks x = made(new int[] {1, 1});
                    int[] disk = diskOf(x);
                    String n3 = ", " + n + ")";
                    due("copy(" + block + ", " + right + n3, x.copy(block, right, n), BAD_BLOCK);
                    due("copy(" + right + ", " + block + n3, x.copy(right, block, n), BAD_BLOCK);
                    due("copy(" + block + ", " + block + n3, x.copy(block, block, n), BAD_BLOCK);
                    dueAll("the disk after copies from or to " + block, diskOf(x), disk);
                }
            }
        }
    }

    private static void copyBeyondTheLastBlock() {
        for (int from = 0; from < 16; from++) {
            for (int to = 0; to < 16; to++) {
                int longest = 16 - (from > to ? from : to);
                String call = "copy(" + from + ", " + to + ", ";
                ChangedBlocks x = made(new int[] {1, 1});
                int[] disk = diskOf(x);
                for (int n : new int[] {longest + 1, longest + 2, 17, 256, 65536, 1 << 28, MAX - 15, MAX - 14, MAX - 1, MAX}) {
                    due(call + n + ")", x.copy(from, to, n), BAD_BLOCK);
                }
                dueAll("the disk after refusals of " + call, diskOf(x), disk);
                due(call + longest + "), which ends at block 15", x.copy(from, to, longest), longest);
                due("block " + (to + longest - 1) + " after it", x.read(to + longest - 1), disk[from + longest - 1]);
            }
        }
    }

    private static void backupOfNoChain() {
        refusesWrongChains("backup", (x, chain) -> x.backup(chain));
    }

    private static void backupOfFullChain() {
        for (int chain = 0; chain < 2; chain++) {
            for (int other = 0; other <= 6; other++) {
                int[] state = chain == 0 ? new int[] {6, other} : new int[] {other, 6};
                ChangedBlocks x = made(state);
                due(name(state) + " backup(" + chain + ")", x.backup(chain), CHAIN_FULL);
                due(name(state) + " backup(" + chain + ") again", x.backup(chain), CHAIN_FULL);
                dueAll(name(state) + " the newest after it", imageOf(x, chain, 5), imageDue(state, chain, 5));
                due(name(state) + " backup of the other", x.backup(1 - chain), other == 6 ? CHAIN_FULL : other);
                x.drop(chain, 2);
                due(name(state) + " backup(" + chain + ") once one has gone", x.backup(chain), 5);
                due(name(state) + " backup(" + chain + ") once full again", x.backup(chain), CHAIN_FULL);
            }
        }
    }

    private static void restoreOfNoChain() {
        for (int k : ODD_ARGUMENTS) {
            refusesWrongChains("restore of " + k, (x, chain) -> x.restore(chain, k));
        }
    }

    private static void restoreOfNoBackup() {
        refusesMissingBackups("restore", (x, chain, k) -> x.restore(chain, k));
        for (int chain = 0; chain < 2; chain++) {
            for (int count = 1; count <= 6; count++) {
                int[] state = chain == 0 ? new int[] {count, 2} : new int[] {2, count};
                for (int k : new int[] {0, count - 1}) {
                    ChangedBlocks x = made(state);
                    int due = differing(diskOf(x), imageDue(state, chain, k));
                    due(name(state) + " restore(" + chain + ", " + k + "), which exists", x.restore(chain, k), due);
                }
            }
        }
    }

    private static void dropOldestOfNoChain() {
        refusesWrongChains("dropOldest", (x, chain) -> x.dropOldest(chain));
    }

    private static void dropOldestOfEmptyChain() {
        for (int chain = 0; chain < 2; chain++) {
            for (int other = 0; other <= 6; other++) {
                int[] state = chain == 0 ? new int[] {0, other} : new int[] {other, 0};
                ChangedBlocks x = made(state);
                due(name(state) + " dropOldest(" + chain + ")", x.dropOldest(chain), NO_BACKUP);
                due(name(state) + " dropOldest(" + chain + ") again", x.dropOldest(chain), NO_BACKUP);
                due(name(state) + " backups of the other", x.backups(1 - chain), other);
                x.backup(chain);
                due(name(state) + " dropOldest(" + chain + ") of the only one", x.dropOldest(chain), 0);
                due(name(state) + " dropOldest(" + chain + ") once empty again", x.dropOldest(chain), NO_BACKUP);
                due(name(state) + " backups(" + chain + ")", x.backups(chain), 0);
            }
        }
    }

    private static void dropOfNoChain() {
        for (int k : ODD_ARGUMENTS) {
            refusesWrongChains("drop of " + k, (x, chain) -> x.drop(chain, k));
        }
    }

    private static void dropOfNoBackup() {
        refusesMissingBackups("drop", (x, chain, k) -> x.drop(chain, k));
        for (int chain = 0; chain < 2; chain++) {
            for (int count = 1; count <= 6; count++) {
                int[] state = chain == 0 ? new int[] {count, 2} : new int[] {2, count};
                for (int k : new int[] {0, count - 1}) {
                    ChangedBlocks x = made(state);
                    due(name(state) + " drop(" + chain + ", " + k + "), which exists", x.drop(chain, k), count - 1);
                    due(name(state) + " drop of the number that went", x.drop(chain, count - 1), NO_BACKUP);
                }
            }
        }
    }

    private static void restartChangesNothing() {
        stopsChangeNothing("restart()", ChangedBlocks::restart);
    }

    private static void crashChangesNothing() {
        stopsChangeNothing("crash()", ChangedBlocks::crash);
    }

    private static void readOutsideTheDisk() {
        for (int[] state : STATES) {
            for (int block : WRONG_BLOCKS) {
                due(name(state) + " read(" + block + ")", made(state).read(block), 0);
            }
            ChangedBlocks x = made(state);
            int[] disk = diskDue(state);
            due(name(state) + " read(0)", x.read(0), disk[0]);
            due(name(state) + " read(15)", x.read(15), disk[15]);
        }
    }

    private static void readBackupOfNoChain() {
        for (int[] state : STATES) {
            for (int chain : WRONG_CHAINS) {
                ChangedBlocks x = made(state);
                for (int k : ODD_ARGUMENTS) {
                    for (int block : new int[] {MIN, -1, 0, 8, 15, 16, MAX}) {
                        String call = "readBackup(" + chain + ", " + k + ", " + block + ")";
                        due(name(state) + " " + call, x.readBackup(chain, k, block), 0);
                    }
                }
            }
        }
    }

    private static void readBackupOfNoBackup() {
        for (int chain = 0; chain < 2; chain++) {
            for (int count = 0; count <= 6; count++) {
                int[] state = chain == 0 ? new int[] {count, 6} : new int[] {6, count};
                for (int k : missing(count)) {
                    ChangedBlocks x = made(state);
                    dueAll(name(state) + " backup " + k + " of chain " + chain, imageOf(x, chain, k), new int[16]);
                    x = shrunk(chain, count);
                    dueAll(name(state) + " backup " + k + " of chain " + chain + " after drops", imageOf(x, chain, k), new int[16]);
                }
            }
        }
    }

    private static void readBackupOutsideTheDisk() {
        int[] state = {6, 6};
        for (int chain = 0; chain < 2; chain++) {
            for (int k = 0; k < 6; k++) {
                ChangedBlocks x = made(state);
                for (int block : WRONG_BLOCKS) {
                    String call = "readBackup(" + chain + ", " + k + ", " + block + ")";
                    due(call, x.readBackup(chain, k, block), 0);
                }
                int[] image = imageDue(state, chain, k);
                due("readBackup(" + chain + ", " + k + ", 0)", x.readBackup(chain, k, 0), image[0]);
                due("readBackup(" + chain + ", " + k + ", 15)", x.readBackup(chain, k, 15), image[15]);
            }
        }
    }

    private static void backupsFromNoneToSix() {
        for (int first = 0; first <= 6; first++) {
            for (int second = 0; second <= 6; second++) {
                int[] state = {first, second};
                ChangedBlocks x = made(state);
                due(name(state) + " backups(0)", x.backups(0), first);
                due(name(state) + " backups(1)", x.backups(1), second);
                due(name(state) + " backups(0) after drops", shrunk(0, first).backups(0), first);
                due(name(state) + " backups(1) after drops", shrunk(1, second).backups(1), second);
            }
        }
    }

    private static void backupsOfNoChain() {
        refusesWrongChains("backups", (x, chain) -> x.backups(chain));
    }

    private static void changedOfNoChain() {
        refusesWrongChains("changed", (x, chain) -> x.changed(chain));
    }

    private static void changedOfEmptyChain() {
        for (int chain = 0; chain < 2; chain++) {
            for (int other = 0; other <= 6; other++) {
                int[] state = chain == 0 ? new int[] {0, other} : new int[] {other, 0};
                ChangedBlocks x = made(state);
                due(name(state) + " changed(" + chain + ")", x.changed(chain), NO_BACKUP);
                x.backup(chain);
                due(name(state) + " changed(" + chain + ") with one backup", x.changed(chain), 0);
                x.write(15, -1);
                due(name(state) + " changed(" + chain + ") after a write", x.changed(chain), 1);
                x.dropOldest(chain);
                due(name(state) + " changed(" + chain + ") once empty again", x.changed(chain), NO_BACKUP);
            }
            due("changed(" + chain + ") after six drops", shrunk(chain, 0).changed(chain), NO_BACKUP);
        }
    }

    private static void differOfNoChain() {
        for (int j : ODD_ARGUMENTS) {
            for (int k : ODD_ARGUMENTS) {
                refusesWrongChains("differ of " + j + " and " + k, (x, chain) -> x.differ(chain, j, k));
            }
        }
    }

    private static void differOfNoBackup() {
        for (int there = 0; there < 6; there++) {
            int k = there;
            refusesMissingBackups("differ with " + k + " on the left", (x, chain, gone) -> x.differ(chain, k, gone));
            refusesMissingBackups("differ with " + k + " on the right", (x, chain, gone) -> x.differ(chain, gone, k));
        }
        refusesMissingBackups("differ with itself", (x, chain, gone) -> x.differ(chain, gone, gone));
        for (int chain = 0; chain < 2; chain++) {
            for (int count = 1; count <= 6; count++) {
                int[] state = chain == 0 ? new int[] {count, 2} : new int[] {2, count};
                ChangedBlocks x = made(state);
                int due = differing(imageDue(state, chain, 0), imageDue(state, chain, count - 1));
                due(name(state) + " differ of the oldest and the newest", x.differ(chain, 0, count - 1), due);
                due(name(state) + " differ of the newest and the oldest", x.differ(chain, count - 1, 0), due);
                due(name(state) + " differ of the newest and itself", x.differ(chain, count - 1, count - 1), 0);
            }
        }
    }

    // What is thrown is caught by test(), as in every other test here.
    private static void noCallThrows() {
        for (int[] state : STATES) {
            for (int a : ODD_ARGUMENTS) {
                for (int b : ODD_ARGUMENTS) {
                    for (int c : ODD_ARGUMENTS) {
                        everyCall(made(state), a, b, c);
                    }
                }
            }
        }
        // Past its 512th call the answers of an object are free, but it still may not throw.
        ChangedBlocks x = new ChangedBlocks();
        for (int round = 0; round < 20000; round++) {
            int a = ODD_ARGUMENTS[round % ODD_ARGUMENTS.length];
            int b = ODD_ARGUMENTS[round / 3 % ODD_ARGUMENTS.length];
            int c = ODD_ARGUMENTS[round / 7 % ODD_ARGUMENTS.length];
            x.backup(round % 2);
            x.backup(round % 2);
            everyCall(x, a, b, c);
        }
    }

    private static void everyCall(ChangedBlocks x, int a, int b, int c) {
        x.write(a, b);
        x.copy(a, b, c);
        x.backup(a);
        x.restore(a, b);
        x.read(a);
        x.readBackup(a, b, c);
        x.backups(a);
        x.changed(a);
        x.differ(a, b, c);
        x.restart();
        x.crash();
        x.drop(a, b);
        x.dropOldest(a);
    }

    private interface ChainCall {
        int on(ChangedBlocks x, int chain);
    }

    private interface BackupCall {
        int on(ChangedBlocks x, int chain, int k);
    }

    private static void refusesWrongChains(String call, ChainCall c) {
        for (int[] state : STATES) {
            for (int chain : WRONG_CHAINS) {
                due(name(state) + " " + call + " for chain " + chain, c.on(made(state), chain), BAD_CHAIN);
            }
        }
    }

    private static void refusesMissingBackups(String call, BackupCall c) {
        for (int chain = 0; chain < 2; chain++) {
            for (int count = 0; count <= 6; count++) {
                int[] state = chain == 0 ? new int[] {count, 6} : new int[] {6, count};
                for (int k : missing(count)) {
                    String of = " " + call + ": number " + k + " of chain " + chain;
                    due(name(state) + of, c.on(made(state), chain, k), NO_BACKUP);
                    due(count + " left after drops" + of, c.on(shrunk(chain, count), chain, k), NO_BACKUP);
                }
            }
        }
    }

    private static void refused(int[] state, String name, ToIntFunction<ChangedBlocks> call, int due) {
        due(name(state) + " " + name, call.applyAsInt(made(state)), due);
        keepsAll(state, name, call::applyAsInt);
    }

    /** Neither what can be asked now nor what a run of later calls answers may be changed by the call. */
    private static void keepsAll(int[] state, String name, Consumer<ChangedBlocks> call) {
        ChangedBlocks now = made(state);
        call.accept(now);
        dueAll(name(state) + " all answers after " + name, everyAnswer(now), everyAnswer(made(state)));
        ChangedBlocks later = made(state);
        call.accept(later);
        ChangedBlocks without = made(state);
        dueAll(name(state) + " later calls after " + name, laterAnswers(later), laterAnswers(without));
        dueAll(name(state) + " all answers after " + name + " and later calls", everyAnswer(later), everyAnswer(without));
    }

    private static void stopsChangeNothing(String name, Consumer<ChangedBlocks> stop) {
        for (int[] state : STATES) {
            keepsAll(state, name, stop);
            keepsAll(state, name + " twice", stop.andThen(stop));
            keepsAll(state, name + " and then the other kind of stop", x -> {
                stop.accept(x);
                x.restart();
                x.crash();
            });
            for (int place = 0; place < LATER_CALLS; place++) {
                ChangedBlocks plain = made(state);
                ChangedBlocks stopped = made(state);
                for (int step = 0; step < LATER_CALLS; step++) {
                    if (step == place) {
                        stop.accept(stopped);
                    }
                    int due = laterCall(plain, step);
                    due(name(state) + " " + name + " before step " + place + ", at step " + step, laterCall(stopped, step), due);
                }
                dueAll(name(state) + " all answers, " + name + " before step " + place, everyAnswer(stopped), everyAnswer(plain));
            }
        }
    }

    private static int[] laterAnswers(ChangedBlocks x) {
        int[] answers = new int[LATER_CALLS];
        for (int step = 0; step < LATER_CALLS; step++) {
            answers[step] = laterCall(x, step);
        }
        return answers;
    }

    private static int laterCall(ChangedBlocks x, int step) {
        switch (step) {
            case 0: return x.changed(0);
            case 1: return x.backup(0);
            case 2: return x.backup(1);
            case 3: return x.write(4, 444);
            case 4: return x.changed(1);
            case 5: return x.drop(0, 1);
            case 6: return x.backup(0);
            case 7: return x.copy(2, 5, 6);
            case 8: return x.changed(0);
            case 9: return x.dropOldest(1);
            case 10: return x.backup(1);
            case 11: return x.restore(0, 0);
            case 12: return x.changed(1);
            case 13: return x.differ(0, 0, 1);
            case 14: return x.drop(0, 0);
            case 15: return x.restore(1, 0);
            case 16: return x.backup(0);
            default: return x.dropOldest(0);
        }
    }

    /** Chain 0 and then chain 1 get as many backups as the state says; every cell is other than 0. */
    private static ChangedBlocks made(int[] state) {
        ChangedBlocks x = new ChangedBlocks();
        for (int block = 0; block < 16; block++) {
            x.write(block, 100 + block);
        }
        for (int chain = 0; chain < 2; chain++) {
            for (int k = 0; k < state[chain]; k++) {
                for (int block : new int[] {k, 0, 15}) {
                    x.write(block, 1000 * (chain + 1) + k);
                }
                x.backup(chain);
            }
        }
        x.write(9, 77);
        return x;
    }

    /** The disk of a made object. */
    private static int[] diskDue(int[] state) {
        int[] disk = state[1] > 0 ? imageDue(state, 1, state[1] - 1) : imageDue(state, 0, state[0] - 1);
        disk[9] = 77;
        return disk;
    }

    /** What backup k of a made object holds; for k = -1 what the disk held before the first backup of the chain. */
    private static int[] imageDue(int[] state, int chain, int k) {
        int[] disk = new int[16];
        for (int block = 0; block < 16; block++) {
            disk[block] = 100 + block;
        }
        for (int c = 0; c <= chain; c++) {
            int last = c < chain ? state[c] - 1 : k;
            for (int i = 0; i <= last; i++) {
                for (int block : new int[] {i, 0, 15}) {
                    disk[block] = 1000 * (c + 1) + i;
                }
            }
        }
        return disk;
    }

    /** Both chains were full, and one of them lost backups, from both its ends, until count were left. */
    private static ChangedBlocks shrunk(int chain, int count) {
        ChangedBlocks x = made(new int[] {6, 6});
        for (int left = 5; left >= count; left--) {
            if (left % 2 == 0) {
                x.dropOldest(chain);
            } else {
                x.drop(chain, left);
            }
        }
        return x;
    }

    /** Numbers that no backup of a chain with that many backups bears. */
    private static int[] missing(int count) {
        return with(FAR, -17, -16, -6, -2, -1, count, count + 1, 6, 7, 8, 12, 15, 16);
    }

    private static int[] with(int[] some, int... more) {
        int[] all = Arrays.copyOf(some, some.length + more.length);
        System.arraycopy(more, 0, all, some.length, more.length);
        return all;
    }

    /** 284 calls, so that an object stays within its 512. */
    private static int[] everyAnswer(ChangedBlocks x) {
        int[] answers = new int[16 + 2 * (2 + 6 * (16 + 6))];
        int at = 0;
        for (int value : diskOf(x)) {
            answers[at++] = value;
        }
        for (int chain = 0; chain < 2; chain++) {
            answers[at++] = x.backups(chain);
            answers[at++] = x.changed(chain);
            for (int k = 0; k < 6; k++) {
                for (int value : imageOf(x, chain, k)) {
                    answers[at++] = value;
                }
                for (int j = 0; j < 6; j++) {
                    answers[at++] = x.differ(chain, j, k);
                }
            }
        }
        return answers;
    }

    private static int[] diskOf(ChangedBlocks x) {
        int[] disk = new int[16];
        for (int block = 0; block < 16; block++) {
            disk[block] = x.read(block);
        }
        return disk;
    }

    private static int[] imageOf(ChangedBlocks x, int chain, int k) {
        int[] image = new int[16];
        for (int block = 0; block < 16; block++) {
            image[block] = x.readBackup(chain, k, block);
        }
        return image;
    }

    private static int differing(int[] a, int[] b) {
        int count = 0;
        for (int i = 0; i < 16; i++) {
            if (a[i] != b[i]) {
                count++;
            }
        }
        return count;
    }

    private static String name(int[] state) {
        return "with " + state[0] + " and " + state[1] + " backups:";
    }

    private static void test(String name, Runnable body) {
        sentence = name;
        int wrongBefore = wrong;
        try {
            body.run();
        } catch (RuntimeException thrown) {
            report("a call threw " + thrown);
        }
        if (wrong != wrongBefore) {
            System.out.println("BROKEN " + sentence + " (" + (wrong - wrongBefore) + " answers)");
        }
    }

    private static void failIfACallDoesNotEnd() {
        Thread watch = new Thread(() -> {
            try {
                Thread.sleep(MOST_MILLIS);
            } catch (InterruptedException never) {
                return;
            }
            System.out.println("[" + sentence + "] a call doesn't end");
            Runtime.getRuntime().halt(1);
        });
        watch.setDaemon(true);
        watch.start();
    }

    private static void due(String call, int got, int want) {
        if (got != want) {
            report(call + " answered " + got + ", due is " + want);
        }
    }

    private static void dueAll(String call, int[] got, int[] want) {
        if (!Arrays.equals(got, want)) {
            report(call + " are " + Arrays.toString(got) + ", due is " + Arrays.toString(want));
        }
    }

    private static void report(String what) {
        wrong++;
        System.out.println("[" + sentence + "] " + what);
    }
}
