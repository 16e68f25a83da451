import java.util.ArrayList;
import java.util.HashSet;
import java.util.List;
import java.util.Set;

/**
 * A second reading of the document, written otherwise than the program: the pieces are read into trees, which are
 * weighed and run by recursion. What the program answers is held against it.
 */
final class Reference {
    private record Statement(int kind, int a, int b, int c) {
    }

    private static final class Node {
        final Statement head;
        final List<Node> inside = new ArrayList<>();

        Node(Statement head) {
            this.head = head;
        }
    }

    private record Piece(int subroutine, List<Statement> statements) {
    }

    private final List<Statement> program = new ArrayList<>();
    private final int[] starts = new int[8];
    private int[] variables = new int[8];
    private int[][] cells = new int[3][8];
    private List<Integer> output = new ArrayList<>();

    int add(int kind, int a, int b, int c) {
        if (program.size() == 48) {
            return SelfModArrayComp.FULL;
        }
        if (!allowed(kind, a, b, c)) {
            return SelfModArrayComp.BAD;
        }
        program.add(new Statement(kind, a, b, c));
        return program.size();
    }

    private static boolean within(int n, int from, int to) {
        return from <= n && n <= to;
    }

    private static boolean allowed(int kind, int a, int b, int c) {
        return switch (kind) {
            case 0, 6, 10 -> within(a, 0, 7);
            case 1, 2, 3 -> within(a, 0, 7) && within(b, 0, 7) && within(c, 0, 7);
            case 4, 5 -> within(a, 0, 7) && within(b, 0, 2) && within(c, 0, 7);
            case 7 -> within(a, 1, 5);
            case 8 -> true;
            case 9, 11 -> within(a, 0, 3);
            default -> false;
        };
    }

    int retract() {
        if (program.isEmpty()) {
            return SelfModArrayComp.BAD;
        }
        program.remove(program.size() - 1);
        return program.size();
    }

    boolean start(int v, int value) {
        if (!within(v, 0, 7)) {
            return false;
        }
        starts[v] = value;
        return true;
    }

    private List<Piece> pieces() {
        List<Piece> pieces = new ArrayList<>();
        pieces.add(new Piece(-1, new ArrayList<>()));
        for (Statement s : program) {
            if (s.kind == SelfModArrayComp.BODY) {
                pieces.add(new Piece(s.a, new ArrayList<>()));
            } else {
                pieces.get(pieces.size() - 1).statements.add(s);
            }
        }
        return pieces;
    }

    private List<Statement> piece(int subroutine) {
        for (Piece piece : pieces()) {
            if (piece.subroutine == subroutine) {
                return piece.statements;
            }
        }
        return null;
    }

    private static boolean opens(Statement s) {
        return s.kind == SelfModArrayComp.IFPOS || s.kind == SelfModArrayComp.LOOP;
    }

    int check() {
        if (malformed()) {
            return SelfModArrayComp.MALFORMED;
        }
        if (twice()) {
            return SelfModArrayComp.TWICE;
        }
        if (missing()) {
            return SelfModArrayComp.MISSING;
        }
        for (int s = 0; s < 4; s++) {
            if (comesTo(s, s, new HashSet<>())) {
                return SelfModArrayComp.RECURSIVE;
            }
        }
        return weight(tree(piece(-1))) > 3000 ? SelfModArrayComp.TOO_LONG : SelfModArrayComp.OK;
    }

    private boolean malformed() {
        for (Piece piece : pieces()) {
            int depth = 0;
            for (Statement s : piece.statements) {
                depth += opens(s) ? 1 : s.kind == SelfModArrayComp.END ? -1 : 0;
                if (depth < 0 || depth > 3) {
                    return true;
                }
            }
            if (depth != 0) {
                return true;
            }
        }
        return false;
    }

    private boolean twice() {
        Set<Integer> seen = new HashSet<>();
        for (Piece piece : pieces()) {
            if (!seen.add(piece.subroutine)) {
                return true;
            }
        }
        return false;
    }

    private boolean missing() {
        for (Statement s : program) {
            if (s.kind == SelfModArrayComp.CALL && piece(s.a) == null) {
                return true;
            }
        }
        return false;
    }

    private boolean comesTo(int from, int to, Set<Integer> seen) {
        List<Statement> statements = piece(from);
        if (statements == null || !seen.add(from)) {
            return false;
        }
        for (Statement s : statements) {
            if (s.kind == SelfModArrayComp.CALL && (s.a == to || comesTo(s.a, to, seen))) {
                return true;
            }
        }
        return false;
    }

    private static List<Node> tree(List<Statement> statements) {
        Node root = new Node(null);
        List<Node> open = new ArrayList<>(List.of(root));
        for (Statement s : statements) {
            if (s.kind == SelfModArrayComp.END) {
                open.remove(open.size() - 1);
                continue;
            }
            Node node = new Node(s);
            open.get(open.size() - 1).inside.add(node);
            if (opens(s)) {
                open.add(node);
            }
        }
        return root.inside;
    }

    private long weight(List<Node> nodes) {
        long sum = 0;
        for (Node node : nodes) {
            sum += switch (node.head.kind) {
                case SelfModArrayComp.LOOP -> 2 + node.head.a * weight(node.inside);
                case SelfModArrayComp.IFPOS -> 2 + weight(node.inside);
                case SelfModArrayComp.CALL -> 1 + weight(tree(piece(node.head.a)));
                default -> 1;
            };
        }
        return sum;
    }

    int run() {
        int fault = check();
        if (fault != SelfModArrayComp.OK) {
            return fault;
        }
        variables = starts.clone();
        cells = new int[3][8];
        output = new ArrayList<>();
        pass(tree(piece(-1)));
        return output.size();
    }

    private void pass(List<Node> nodes) {
        for (Node node : nodes) {
            Statement s = node.head;
            switch (s.kind) {
                case SelfModArrayComp.SET -> variables[s.a] = s.b;
                case SelfModArrayComp.ADD -> variables[s.a] = variables[s.b] + variables[s.c];
                case SelfModArrayComp.SUB -> variables[s.a] = variables[s.b] - variables[s.c];
                case SelfModArrayComp.MUL -> variables[s.a] = variables[s.b] * variables[s.c];
                case SelfModArrayComp.GET -> variables[s.a] = cells[s.b][variables[s.c] & 7];
                case SelfModArrayComp.PUT -> cells[s.b][variables[s.c] & 7] = variables[s.a];
                case SelfModArrayComp.CALL -> pass(tree(piece(s.a)));
                case SelfModArrayComp.PRINT -> output.add(variables[s.a]);
                default -> passBlock(node);
            }
        }
    }

    private void passBlock(Node node) {
        if (node.head.kind == SelfModArrayComp.LOOP) {
            for (int i = 0; i < node.head.a; i++) {
                pass(node.inside);
            }
        } else if (variables[node.head.a] > 0) {
            pass(node.inside);
        }
    }

    int printed() {
        return output.size();
    }

    int output(int k) {
        return k >= 0 && k < output.size() && k < 48 ? output.get(k) : 0;
    }

    int variable(int v) {
        return within(v, 0, 7) ? variables[v] : 0;
    }

    int cell(int array, int i) {
        return within(array, 0, 2) && within(i, 0, 7) ? cells[array][i] : 0;
    }

    void clear() {
        program.clear();
        java.util.Arrays.fill(starts, 0);
        variables = new int[8];
        cells = new int[3][8];
        output = new ArrayList<>();
    }
}
