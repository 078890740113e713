/** Sentences that belong together, and what their tests share. */
abstract class SentenceGroup {
    interface NumberCall {
        long of(int number);
    }

    interface CellCall {
        long at(int column, int row);
    }

    final Sentences doc;
    final Due due;

    SentenceGroup(Sentences doc) {
        this.doc = doc;
        due = doc.due;
    }

    abstract void tell();

    final void noSuchPart(int parts, NumberCall call) {
        for (int part : new int[] {parts, -1, 10, Integer.MIN_VALUE, Integer.MAX_VALUE}) {
            due.failsIndex("the part " + part, () -> call.of(part));
        }
    }

    /** On a slab of 3 rows. */
    final void noSuchRow(NumberCall call) {
        for (int row : new int[] {3, -1, 4, 11, 12, Integer.MAX_VALUE, Integer.MIN_VALUE}) {
            due.failsIndex("the row " + row, () -> call.of(row));
        }
    }

    /** On a slab of 4 columns and 3 rows. */
    final void noSuchCell(CellCall call) {
        int[][] cells = {{4, 0}, {-1, 0}, {0, 3}, {0, -1}, {4, 3}, {-1, -1}, {3, 3}, {4, 2}, {3, 4}, {2, 100},
            {Integer.MAX_VALUE, 0}, {Integer.MIN_VALUE, 0}, {0, Integer.MAX_VALUE}, {0, Integer.MIN_VALUE}};
        for (int[] cell : cells) {
            due.failsIndex("the cell " + cell[0] + " " + cell[1], () -> call.at(cell[0], cell[1]));
        }
    }
}
