import java.util.ArrayList;
import java.util.List;
import java.util.Random;

/**
 * Runs of calls, the same ones each time, whose answers are compared with those of a model that is
 * written from the document alone, with lists of whole images.
 */
public final class ModelRunsTest {
    private static final int RUNS = 4000;
    // Each look comes last and ends within the 512 calls that an object is used for.
    private static final int CALLS_BEFORE_WHOLE_LOOK = 512 - 284;
    private static final int CALLS_BEFORE_SHORT_LOOK = 512 - 20;
    private static final int KINDS = 21;
    private static final int[] ODD = {-1, -2, 2, 6, 7, 16, 17, Integer.MIN_VALUE, Integer.MAX_VALUE};

    private final Random random;
    private final int[] values;
    private final ChangedBlocks x = new ChangedBlocks();
    private final Model model = new Model();
    private final StringBuilder calls = new StringBuilder();
    private boolean right = true;

    private ModelRunsTest(int seed) {
        // Seeds that lie close together begin with nearly the same numbers.
        random = new Random(seed * 0x9E3779B97F4A7C15L);
        values = fewValues();
    }

    public static void main(String[] args) {
        int wrong = 0;
        for (int seed = 0; seed < RUNS; seed++) {
            ModelRunsTest run = new ModelRunsTest(seed);
            if (!run.agrees()) {
                wrong++;
            }
        }
        System.out.println(wrong == 0 ? "all runs are as due" : wrong + " runs are not as due");
        if (wrong != 0) {
            System.exit(1);
        }
    }

    // Few, so that blocks are often alike, and all but the 0 one bit apart from another one.
    private int[] fewValues() {
        int base = random.nextInt();
        return new int[] {0, base, base ^ 1 << random.nextInt(32), base ^ 1 << random.nextInt(32)};
    }

    private boolean agrees() {
        boolean wholeLook = random.nextBoolean();
        callSome(wholeLook ? random.nextInt(CALLS_BEFORE_WHOLE_LOOK + 1) : CALLS_BEFORE_SHORT_LOOK);
        if (right) {
            lookAtDiskAndCounts();
        }
        if (right && wholeLook) {
            lookAtBackups();
        }
        return right;
    }

    // Some runs keep to one kind of call for the most part, so that each kind comes hundreds of times in one object.
    private void callSome(int length) {
        int favourite = random.nextInt(KINDS);
        int share = 45 * random.nextInt(3);
        for (int i = 0; i < length && right; i++) {
            callOnce(random.nextInt(100) < share ? favourite : random.nextInt(KINDS));
        }
    }

    private void callOnce(int kind) {
        int chain = pick(2);
        int k = pick(6);
        int j = pick(6);
        int block = pick(16);
        int to = pick(16);
        int value = values[random.nextInt(values.length)];
        int n = random.nextInt(12) == 0 ? ODD[random.nextInt(ODD.length)] : random.nextInt(9);
        switch (kind) {
            case 0: case 1: case 2: case 3: case 4:
                due("write(" + block + ", " + value + ")", x.write(block, value), model.write(block, value));
                break;
            case 5: case 6:
                due("copy(" + block + ", " + to + ", " + n + ")", x.copy(block, to, n), model.copy(block, to, n));
                break;
            case 7: case 8: case 9: case 10:
                due("backup(" + chain + ")", x.backup(chain), model.backup(chain));
                break;
            case 11:
                due("restore(" + chain + ", " + k + ")", x.restore(chain, k), model.restore(chain, k));
                break;
            case 12:
                due("dropOldest(" + chain + ")", x.dropOldest(chain), model.drop(chain, 0));
                break;
            case 13:
                due("drop(" + chain + ", " + k + ")", x.drop(chain, k), model.drop(chain, k));
                break;
            case 14:
                calls.append(" restart()");
                x.restart();
                break;
            case 15:
                calls.append(" crash()");
                x.crash();
                break;
            case 16:
                due("read(" + block + ")", x.read(block), model.read(block));
                break;
            case 17:
                due("readBackup(" + chain + ", " + k + ", " + block + ")",
                        x.readBackup(chain, k, block), model.readBackup(chain, k, block));
                break;
            case 18:
                due("changed(" + chain + ")", x.changed(chain), model.changed(chain));
                break;
            case 19:
                due("backups(" + chain + ")", x.backups(chain), model.backups(chain));
                break;
            default:
                due("differ(" + chain + ", " + j + ", " + k + ")", x.differ(chain, j, k), model.differ(chain, j, k));
                break;
        }
    }

    private void lookAtDiskAndCounts() {
        for (int block = 0; block < 16; block++) {
            due("read(" + block + ")", x.read(block), model.read(block));
        }
        for (int chain = 0; chain < 2; chain++) {
            due("backups(" + chain + ")", x.backups(chain), model.backups(chain));
            due("changed(" + chain + ")", x.changed(chain), model.changed(chain));
        }
    }

    private void lookAtBackups() {
        for (int chain = 0; chain < 2; chain++) {
            for (int k = 0; k < 6; k++) {
                for (int block = 0; block < 16; block++) {
                    due("readBackup(" + chain + ", " + k + ", " + block + ")",
                            x.readBackup(chain, k, block), model.readBackup(chain, k, block));
                }
                for (int j = 0; j < 6; j++) {
                    due("differ(" + chain + ", " + j + ", " + k + ")", x.differ(chain, j, k), model.differ(chain, j, k));
                }
            }
        }
    }

    private int pick(int bound) {
        return random.nextInt(25) == 0 ? ODD[random.nextInt(ODD.length)] : random.nextInt(bound);
    }

    private void due(String call, int got, int want) {
        calls.append(' ').append(call);
        if (got != want && right) {
            right = false;
            System.out.println(call + " answered " + got + ", due is " + want + ", at the end of:" + calls);
        }
    }

    private static final class Model {
        private int[] disk = new int[16];
        private final List<List<int[]>> chains = List.of(new ArrayList<>(), new ArrayList<>());

        int write(int block, int value) {
            if (noBlock(block)) {
                return -2;
            }
            disk[block] = value;
            return 0;
        }

        int copy(int from, int to, int n) {
            long count = Math.max(0, n);
            if (noBlock(from) || noBlock(to) || from + count - 1 > 15 || to + count - 1 > 15) {
                return -2;
            }
            int[] before = disk.clone();
            for (int i = 0; i < count; i++) {
                disk[to + i] = before[from + i];
            }
            return (int) count;
        }

        int backup(int chain) {
            if (noChain(chain)) {
                return -1;
            }
            if (chains.get(chain).size() == 6) {
                return -3;
            }
            chains.get(chain).add(disk.clone());
            return chains.get(chain).size() - 1;
        }

        int restore(int chain, int k) {
            if (noChain(chain)) {
                return -1;
            }
            if (noBackup(chain, k)) {
                return -4;
            }
            int[] before = disk;
            disk = chains.get(chain).get(k).clone();
            return differing(before, disk);
        }

        int drop(int chain, int k) {
            if (noChain(chain)) {
                return -1;
            }
            if (noBackup(chain, k)) {
                return -4;
            }
            chains.get(chain).remove(k);
            return chains.get(chain).size();
        }

        int read(int block) {
            return noBlock(block) ? 0 : disk[block];
        }

        int readBackup(int chain, int k, int block) {
            return noChain(chain) || noBackup(chain, k) || noBlock(block) ? 0 : chains.get(chain).get(k)[block];
        }

        int backups(int chain) {
            return noChain(chain) ? -1 : chains.get(chain).size();
        }

        int changed(int chain) {
            if (noChain(chain)) {
                return -1;
            }
            List<int[]> images = chains.get(chain);
            return images.isEmpty() ? -4 : differing(disk, images.get(images.size() - 1));
        }

        int differ(int chain, int j, int k) {
            if (noChain(chain)) {
                return -1;
            }
            if (noBackup(chain, j) || noBackup(chain, k)) {
                return -4;
            }
            return differing(chains.get(chain).get(j), chains.get(chain).get(k));
        }

        private static boolean noBlock(int block) {
            return block < 0 || block > 15;
        }

        private static boolean noChain(int chain) {
            return chain != 0 && chain != 1;
        }

        private boolean noBackup(int chain, int k) {
            return k < 0 || k >= chains.get(chain).size();
        }

        private static int differing(int[] a, int[] b) {
            int count = 0;
            for (int i = 0; i < 16; i++) {
                count += a[i] == b[i] ? 0 : 1;
            }
            return count;
        }
    }
}
