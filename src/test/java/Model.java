import java.util.ArrayDeque;
import java.util.ArrayList;
import java.util.Arrays;
import java.util.List;
import java.util.Objects;

/**
 * The document said again with objects and lists, as unlike the program as it can be held: pipes are
 * objects, and whether an instruction waits is found by doing it.
 */
final class Model {
    private enum Did { WENT_ON, WAITED, ENDED, YIELDED }

    private static final class Pipe {
        final int number;
        final ArrayDeque<Integer> words = new ArrayDeque<>();

        Pipe(int number) {
            this.number = number;
        }
    }

    private record End(Pipe pipe, boolean reading) {
    }

    private record Instruction(int op, int a, int b, int n) {
    }

    private static final class Process {
        final int number;
        int state = 1;
        int spot;
        int result;
        Process parent;
        int[] registers = new int[4];
        int[] memory = new int[32];
        End[] ends = new End[4];

        Process(int number) {
            this.number = number;
        }
    }

    private final Instruction[] code = new Instruction[64];
    private final Process[] table = new Process[6];
    private final List<Process> queue = new ArrayList<>();
    private final List<Integer> output = new ArrayList<>();
    private long executed = 0;

    Model() {
        Arrays.fill(code, new Instruction(0, 0, 0, 0));
    }

    boolean code(int i, int what, int n) {
        if (i < 0 || i > 63 || what < 0 || what > 511 || what % 32 > 24) {
            return false;
        }
        code[i] = new Instruction(what % 32, what / 32 % 4, what / 128, n);
        return true;
    }

    int spawn(int spot, int x) {
        Process p = take();
        if (p == null) {
            return -1000;
        }
        p.spot = spot;
        p.registers[0] = x;
        queue.add(p);
        return p.number;
    }

    int run(int n) {
        int turns = 0;
        while (turns < Math.min(80, n) && turn()) {
            turns++;
        }
        return turns;
    }

    private boolean turn() {
        for (Process p : table) {
            if (p != null && p.state == 2 && !waits(p)) {
                p.state = 1;
                queue.add(p);
            }
        }
        if (queue.isEmpty()) {
            return false;
        }
        Process p = queue.remove(0);
        Did did = Did.WENT_ON;
        for (int i = 0; i < 3 && did == Did.WENT_ON; i++) {
            did = step(p);
            executed += did == Did.WAITED ? 0 : 1;
        }
        if (did == Did.WAITED) {
            p.state = 2;
        } else if (did != Did.ENDED) {
            queue.add(p);
        }
        return true;
    }

    private boolean waits(Process p) {
        if (p.spot < 0 || p.spot > 63) {
            return false;
        }
        Instruction now = code[p.spot];
        End end = endOf(p, p.registers[now.b]);
        return switch (now.op) {
            case 14 -> children(p).size() > 0 && children(p).stream().noneMatch(c -> c.state == 3);
            case 16 -> end != null && end.reading && end.pipe.words.isEmpty() && held(end.pipe, false);
            case 17 -> end != null && !end.reading && held(end.pipe, true) && end.pipe.words.size() == 4;
            default -> false;
        };
    }

    private Did step(Process p) {
        if (p.spot < 0 || p.spot > 63) {
            return end(p, -4);
        }
        Instruction now = code[p.spot];
        int ra = p.registers[now.a];
        int rb = p.registers[now.b];
        Integer newA = null;
        int next = p.spot + 1;
        switch (now.op) {
            case 0:
                return end(p, ra);
            case 1: newA = now.n; break;
            case 2: newA = rb; break;
            case 3: newA = ra + rb; break;
            case 4: newA = ra - rb; break;
            case 5: newA = ra * rb; break;
            case 6: newA = ra + now.n; break;
            case 7: newA = ra < rb ? 1 : 0; break;
            case 8:
            case 9:
                int i = rb + now.n;
                if (i < 0 || i > 31) {
                    return end(p, -1);
                }
                if (now.op == 8) {
                    newA = p.memory[i];
                } else {
                    p.memory[i] = ra;
                }
                break;
            case 10: next = ra == 0 ? now.n : next; break;
            case 11: next = now.n; break;
            case 12: next = ra != 0 ? now.n : next; break;
            case 13: newA = fork(p, now.a); break;
            case 14:
                List<Process> children = children(p);
                Process ended = children.stream().filter(c -> c.state == 3).findFirst().orElse(null);
                if (ended == null && !children.isEmpty()) {
                    return Did.WAITED;
                }
                p.registers[now.a] = ended == null ? -1 : ended.result;
                if (ended != null) {
                    p.registers[now.b] = ended.number;
                    table[ended.number] = null;
                }
                break;
            case 15:
                int first = nothing(p);
                long nothings = Arrays.stream(p.ends).filter(Objects::isNull).count();
                Pipe made = nothings < 2 ? null : newPipe();
                p.registers[now.a] = made == null ? -1 : first;
                if (made != null) {
                    p.ends[first] = new End(made, true);
                    int second = nothing(p);
                    p.ends[second] = new End(made, false);
                    p.registers[now.b] = second;
                }
                break;
            case 16:
                End from = endOf(p, rb);
                if (from == null || !from.reading) {
                    newA = -1;
                } else if (!from.pipe.words.isEmpty()) {
                    newA = from.pipe.words.removeFirst();
                } else if (!held(from.pipe, false)) {
                    newA = -2;
                } else {
                    return Did.WAITED;
                }
                break;
            case 17:
                End to = endOf(p, rb);
                if (to == null || to.reading) {
                    newA = -1;
                } else if (!held(to.pipe, true)) {
                    return end(p, -2);
                } else if (to.pipe.words.size() == 4) {
                    return Did.WAITED;
                } else {
                    to.pipe.words.addLast(ra);
                }
                break;
            case 18:
                newA = endOf(p, rb) == null ? -1 : 0;
                if (newA == 0) {
                    p.ends[rb] = null;
                }
                break;
            case 19:
                newA = endOf(p, rb) == null ? -1 : nothing(p);
                if (newA >= 0) {
                    p.ends[newA] = p.ends[rb];
                }
                break;
            case 20: break;
            case 21: output.add(ra); break;
            case 22: newA = p.number; break;
            case 23: newA = p.parent == null ? -1 : p.parent.number; break;
            case 24:
                Process other = rb < 0 || rb > 5 ? null : table[rb];
                newA = other == null || other == p || other.state == 3 ? -1 : 0;
                if (newA == 0) {
                    end(other, -3);
                }
                break;
            default:
                throw new IllegalStateException();
        }
        if (newA != null) {
            p.registers[now.a] = newA;
        }
        p.spot = next;
        return now.op == 20 ? Did.YIELDED : Did.WENT_ON;
    }

    private int fork(Process p, int a) {
        Process child = take();
        if (child == null) {
            return -2;
        }
        child.parent = p;
        child.spot = p.spot + 1;
        child.registers = p.registers.clone();
        child.memory = p.memory.clone();
        child.ends = p.ends.clone();
        child.registers[a] = -1;
        queue.add(child);
        return child.number;
    }

    private Did end(Process p, int result) {
        queue.remove(p);
        Arrays.fill(p.ends, null);
        for (Process child : children(p)) {
            child.parent = null;
            if (child.state == 3) {
                table[child.number] = null;
            }
        }
        p.state = 3;
        p.result = result;
        if (p.parent == null) {
            table[p.number] = null;
        }
        return Did.ENDED;
    }

    private Process take() {
        int p = Arrays.asList(table).indexOf(null);
        if (p < 0) {
            return null;
        }
        table[p] = new Process(p);
        return table[p];
    }

    private List<Process> children(Process p) {
        return Arrays.stream(table).filter(c -> c != null && c.parent == p).toList();
    }

    private static End endOf(Process p, int d) {
        return d < 0 || d > 3 ? null : p.ends[d];
    }

    private static int nothing(Process p) {
        return Arrays.asList(p.ends).indexOf(null);
    }

    private List<End> allEnds() {
        return Arrays.stream(table).filter(Objects::nonNull).flatMap(p -> Arrays.stream(p.ends)).filter(Objects::nonNull).toList();
    }

    private boolean held(Pipe pipe, boolean reading) {
        return allEnds().contains(new End(pipe, reading));
    }

    private Pipe there(int k) {
        return allEnds().stream().map(End::pipe).filter(pipe -> pipe.number == k).findFirst().orElse(null);
    }

    private Pipe newPipe() {
        for (int k = 0; k < 3; k++) {
            if (there(k) == null) {
                return new Pipe(k);
            }
        }
        return null;
    }

    private Process at(int p) {
        return p < 0 || p > 5 ? null : table[p];
    }

    private Process alive(int p) {
        Process found = at(p);
        return found == null || found.state == 3 ? null : found;
    }

    int state(int p) {
        return p < 0 || p > 5 ? -1000 : table[p] == null ? 0 : table[p].state;
    }

    int spot(int p) {
        Process found = at(p);
        return found == null ? -1000 : found.state == 3 ? found.result : found.spot;
    }

    int parent(int p) {
        Process found = at(p);
        return found == null ? -1000 : found.parent == null ? -1 : found.parent.number;
    }

    int register(int p, int r) {
        return alive(p) == null || r < 0 || r > 3 ? 0 : alive(p).registers[r];
    }

    int word(int p, int i) {
        return alive(p) == null || i < 0 || i > 31 ? 0 : alive(p).memory[i];
    }

    int descriptor(int p, int d) {
        End end = alive(p) == null ? null : endOf(alive(p), d);
        return end == null ? 0 : end.pipe.number * 2 + (end.reading ? 1 : 2);
    }

    int pipe(int k) {
        return k < 0 || k > 2 ? -1000 : there(k) == null ? -1 : there(k).words.size();
    }

    long executed() {
        return executed;
    }

    int printed() {
        return output.size();
    }

    int output(int k) {
        return k < 0 || k > 31 || k >= output.size() ? 0 : output.get(k);
    }

    boolean kill(int p, int result) {
        if (alive(p) == null) {
            return false;
        }
        end(table[p], result);
        return true;
    }

    boolean level(int k) {
        return k == 0 || k == 1 || k == 2;
    }
}
