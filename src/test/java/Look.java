/**
 * All that can be seen of an object, as a text: its sheet, its recipe, what is wanted, the tape,
 * X, and what was kept. Looking uses the object up (fewer than 400 of its 512 calls).
 */
final class Look {
    private final PaperStars stars;
    private final StringBuilder seen = new StringBuilder();

    private Look(PaperStars stars) {
        this.stars = stars;
    }

    /** Of the tape the first 160 bytes are seen, as a recipe. */
    static String at(PaperStars stars) {
        Look look = new Look(stars);
        look.state("now");
        int bytes = Math.min(160, stars.count(3));
        look.put("tape as a recipe", stars.recipe(bytes));
        look.sheet("by the tape");
        look.put("draw", stars.draw(5));
        look.put("X", stars.count(4));
        look.put("undo", stars.undo() ? 1 : 0);
        look.state("kept");
        return look.seen.toString();
    }

    private void put(String name, long value) {
        seen.append(name).append('=').append(value).append(' ');
    }

    private void state(String name) {
        seen.append(name).append(": ");
        for (int what = 0; what <= 6; what++) {
            put("count " + what, stars.count(what));
        }
        for (int what = 20; what < 36; what++) {
            put("row " + what, stars.count(what));
        }
        sheet(name);
        put("hang", stars.hang());
        put("unlike", stars.differs(0));
        put("first unlike", stars.differs(1));
    }

    private void sheet(String name) {
        seen.append(name).append(" sheet: ");
        for (int what = 0; what <= 5; what++) {
            put("wedge " + what, stars.wedge(what));
        }
        for (int what = 0; what <= 6; what++) {
            put("sums " + what, stars.sums(what));
        }
        int size = Math.min(6, stars.count(0));
        for (int cell = 0; cell < size * size; cell++) {
            put("opened", stars.opened(cell % size, cell / size));
        }
    }
}
