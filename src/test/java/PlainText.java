import java.util.ArrayList;
import java.util.List;

/** A TEXT as a tree: all tokens first, then the tree, then what it gives. For PlainBoard. */
final class PlainText {
    private record Token(char kind, int value, int place) { }

    private record Node(char kind, int value, Node left, Node right) { }

    private static final class Fault extends RuntimeException {
        private static final long serialVersionUID = 1;
        final int place;

        Fault(int place) {
            super(null, null, false, false);
            this.place = place;
        }
    }

    private final List<Token> tokens = new ArrayList<>();
    private int next;
    private Node tree;
    final int fault;

    PlainText(List<Integer> bytes) {
        tokenize(bytes);
        int where = -1;
        try {
            tree = text(0);
            if (peek() != 'E') {
                throw new Fault(tokens.get(next).place);
            }
        } catch (Fault f) {
            where = f.place;
        }
        fault = where;
    }

    /** Kinds: '#' a number, 'S' a sign, '?' what is no token, 'E' the end, or the mark itself. */
    private void tokenize(List<Integer> bytes) {
        StringBuilder all = new StringBuilder();
        bytes.forEach(b -> all.append((char) b.intValue()));
        int i = 0;
        while (i < all.length()) {
            char c = all.charAt(i);
            int begin = i;
            i++;
            if (c == ' ') {
                continue;
            }
            if (c >= '0' && c <= '9') {
                while (i < all.length() && all.charAt(i) >= '0' && all.charAt(i) <= '9') {
                    i++;
                }
                String digits = all.substring(begin, i).replaceFirst("^0+(?=.)", "");
                boolean isGood = digits.length() <= 4;
                tokens.add(new Token(isGood ? '#' : '?', isGood ? Integer.parseInt(digits) : 0, begin));
            } else if ("wglhfqtn".indexOf(c) >= 0) {
                tokens.add(new Token('S', "wglhfqtn".indexOf(c), begin));
            } else {
                tokens.add(new Token("+-*/()<=".indexOf(c) >= 0 ? c : '?', 0, begin));
            }
        }
        tokens.add(new Token('E', 0, all.length()));
    }

    private char peek() {
        return tokens.get(next).kind;
    }

    private Node text(int open) {
        Node left = sum(open);
        if (peek() == '<' || peek() == '=') {
            char mark = tokens.get(next++).kind;
            return new Node(mark, 0, left, sum(open));
        }
        return left;
    }

    private Node sum(int open) {
        Node left = term(open);
        while (peek() == '+' || peek() == '-') {
            char mark = tokens.get(next++).kind;
            left = new Node(mark, 0, left, term(open));
        }
        return left;
    }

    private Node term(int open) {
        Node left = one(open);
        while (peek() == '*' || peek() == '/') {
            char mark = tokens.get(next++).kind;
            left = new Node(mark, 0, left, one(open));
        }
        return left;
    }

    private Node one(int open) {
        Token t = tokens.get(next);
        if (t.kind == '#' || t.kind == 'S') {
            next++;
            return new Node(t.kind, t.value, null, null);
        }
        if (t.kind == '-' && open < 6) {
            next++;
            return new Node('~', 0, one(open + 1), null);
        }
        if (t.kind == '(' && open < 6) {
            next++;
            Node inside = text(open + 1);
            if (peek() != ')') {
                throw new Fault(tokens.get(next).place);
            }
            next++;
            return inside;
        }
        throw new Fault(t.place);
    }

    int value(int[] signs) {
        return value(tree, signs);
    }

    private static int value(Node n, int[] signs) {
        if (n.kind == '#') {
            return n.value;
        }
        if (n.kind == 'S') {
            return signs[n.value];
        }
        int left = value(n.left, signs);
        if (n.kind == '~') {
            return -left;
        }
        int right = value(n.right, signs);
        switch (n.kind) {
            case '+': return left + right;
            case '-': return left - right;
            case '*': return left * right;
            case '/': return right == 0 ? 0 : (int) ((long) left / right);
            case '<': return left < right ? 1 : 0;
            default: return left == right ? 1 : 0;
        }
    }
}
