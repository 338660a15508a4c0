import java.util.ArrayList;
import java.util.List;

/** Made-up numbers and programs, the same ones each time for the same seed. */
final class Programs {
    static final int[] NUMBERS = {0, 1, 2, 3, -1, 5, 63, 64, 31, 100, Integer.MIN_VALUE, Integer.MAX_VALUE};

    private long seed;

    Programs(long seed) {
        this.seed = seed;
    }

    int below(int bound) {
        seed = seed * 6364136223846793005L + 1442695040888963407L;
        return (int) ((seed >>> 33) % bound);
    }

    int number() {
        return NUMBERS[below(NUMBERS.length)];
    }

    /** The tokens of a program, some of them spoilt so that they are none. */
    List<Model.Token> next() {
        List<Model.Token> made = new ArrayList<>();
        writeRow(made, 0, 1 + below(6));
        int spoilt = below(5);
        if (spoilt == 0 && !made.isEmpty()) {
            made.set(below(made.size()), new Model.Token(below(32), below(6)));
        } else if (spoilt == 1 && !made.isEmpty()) {
            made.remove(below(made.size()));
        }
        return made;
    }

    private void writeRow(List<Model.Token> made, int depth, int length) {
        for (int i = 0; i < length; i++) {
            int kind = below(20);
            if (kind < 6) {
                made.add(new Model.Token(0, below(6)));
                writeExpression(made, 2);
            } else if (kind < 12) {
                made.add(new Model.Token(1 + below(2), below(9)));
                writeExpression(made, below(2));
                writeExpression(made, 2);
            } else if (kind < 15 && depth < 3) {
                made.add(new Model.Token(3, 0));
                writeExpression(made, 1 + below(2));
                writeRow(made, depth + 1, below(3));
                if (below(2) == 0) {
                    made.add(new Model.Token(4, 0));
                    writeRow(made, depth + 1, below(3));
                }
                made.add(new Model.Token(5, 0));
            } else if (kind < 17 && depth < 3) {
                writeLoop(made, depth);
            } else {
                made.add(new Model.Token(below(8) == 0 ? 8 : 7, 0));
            }
        }
    }

    // Half of the loops count a variable down, so that not all of them go on to the limit.
    private void writeLoop(List<Model.Token> made, int depth) {
        int counting = below(6);
        boolean ends = below(2) == 0;
        if (ends) {
            made.add(new Model.Token(0, counting));
            made.add(new Model.Token(12 + below(2), 0));
        }
        made.add(new Model.Token(6, 0));
        if (ends) {
            made.add(new Model.Token(11, counting));
            made.add(new Model.Token(0, counting));
            made.add(new Model.Token(21, 0));
            made.add(new Model.Token(11, counting));
            made.add(new Model.Token(10, 1));
        } else {
            writeExpression(made, 1);
        }
        writeRow(made, depth + 1, below(3));
        made.add(new Model.Token(5, 0));
    }

    private void writeExpression(List<Model.Token> made, int depth) {
        int pick = below(depth > 0 ? 10 : 4);
        if (pick < 4) {
            int kind = 10 + below(5);
            made.add(new Model.Token(kind, kind == 10 ? number() : below(6)));
        } else if (pick < 7) {
            made.add(new Model.Token(15 + below(2), 0));
            writeExpression(made, below(4) == 0 ? depth - 1 : 0);
        } else {
            int kind = 20 + below(12);
            made.add(new Model.Token(kind, 0));
            int operands = kind == 31 ? 3 : kind >= 29 ? 1 : 2;
            for (int i = 0; i < operands; i++) {
                writeExpression(made, depth - below(2));
            }
        }
    }
}
