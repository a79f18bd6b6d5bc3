import java.util.Random;

/** Draws recipes that can stand, most of the time. */
final class Texts {
    private final Random random;
    private final int size;
    private int w;
    private int h;
    private boolean diagonal = false;

    Texts(Random random, int size) {
        this.random = random;
        this.size = size;
        this.w = size;
        this.h = size;
    }

    String recipe() {
        StringBuilder b = new StringBuilder();
        folds(b);
        b.append(':');
        int snips = random.nextInt(10) == 0 ? 13 : 1 + random.nextInt(4);
        for (int i = 0; i < snips; i++) {
            if (i > 0) {
                b.append(';');
            }
            snip(b, snips > 4);
        }
        return b.toString();
    }

    private void folds(StringBuilder b) {
        for (int i = random.nextInt(7); i > 0 && !diagonal; i--) {
            int way = random.nextInt(5);
            if (way < 2 && w % 2 == 0) {
                b.append('h');
                w /= 2;
            } else if (way < 4 && h % 2 == 0) {
                b.append('v');
                h /= 2;
            } else if (way == 4 && w == h && w > 1) {
                b.append('d');
                diagonal = true;
            }
        }
    }

    private void snip(StringBuilder b, boolean shortOnes) {
        int way = shortOnes ? 0 : random.nextInt(4);
        int y = random.nextInt(h);
        int x = diagonal ? y + random.nextInt(w - y) : random.nextInt(w);
        if (way == 0) {
            b.append('s').append(x).append(',').append(y);
        } else if (way == 1) {
            int otherX = x + random.nextInt(w - x);
            int most = diagonal ? Math.min(h - 1, otherX) : h - 1;
            int otherY = y + random.nextInt(most - y + 1);
            b.append('r').append(x).append(',').append(y).append('-');
            b.append(otherX).append(',').append(otherY);
        } else {
            b.append("c(");
            condition(b, 1);
            b.append(')');
        }
    }

    private void condition(StringBuilder b, int open) {
        for (int i = random.nextInt(3); i >= 0; i--) {
            for (int j = random.nextInt(3); j > 1; j--) {
                piece(b, open);
                b.append('&');
            }
            piece(b, open);
            if (i > 0) {
                b.append('|');
            }
        }
    }

    private void piece(StringBuilder b, int open) {
        int way = random.nextInt(6);
        if (open < 6 && way == 0) {
            b.append('!');
            piece(b, open + 1);
        } else if (open < 6 && way == 1) {
            b.append('(');
            condition(b, open + 1);
            b.append(')');
        } else {
            sum(b, open);
            b.append("<>=".charAt(random.nextInt(3)));
            sum(b, open);
        }
    }

    private void sum(StringBuilder b, int open) {
        for (int i = random.nextInt(3); i > 1; i--) {
            term(b, open);
            b.append("+-".charAt(random.nextInt(2)));
        }
        term(b, open);
    }

    private void term(StringBuilder b, int open) {
        for (int i = random.nextInt(3); i > 1; i--) {
            factor(b, open);
            b.append("*/%".charAt(random.nextInt(3)));
        }
        factor(b, open);
    }

    private void factor(StringBuilder b, int open) {
        int way = random.nextInt(8);
        if (open < 6 && way == 0) {
            b.append('[');
            sum(b, open + 1);
            b.append(']');
        } else if (way < 4) {
            b.append(random.nextInt(20) == 0 ? random.nextInt(100000) : random.nextInt(size));
        } else {
            b.append("xyxyxywhlnz".charAt(random.nextInt(11)));
        }
    }
}
