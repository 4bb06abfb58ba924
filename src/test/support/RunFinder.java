import java.util.ArrayList;
import java.util.List;

/** Finds runs of drops that bring stones to wanted cells and make no other line. */
final class RunFinder {
  static final int ANY_CELL = -1;

  private static final int MOST_TRIES = 100000;

  private final Numbers numbers = new Numbers();

  /**
   * The columns of a run whose last drop fills the last one of the wanted
   * cells, all of them with stones of the player. Neither player has a line
   * with a cell outside the wanted ones. If last is not ANY_CELL, that cell
   * (bit col*7 + row) is filled last. Null if no such run was found.
   */
  List<Integer> find(int player, long wanted, int last) {
    for (int i = 0; i < MOST_TRIES; i++) {
      List<Integer> run = tryOnce(player, wanted, last);
      if (run != null) {
        return run;
      }
    }
    return null;
  }

  private List<Integer> tryOnce(int player, long wanted, int last) {
    PlainBoard board = new PlainBoard();
    List<Integer> run = new ArrayList<>();
    long open = wanted;
    while (open != 0) {
      List<Integer> fitting = new ArrayList<>();
      for (int col = 0; col < PlainBoard.COLUMNS; col++) {
        if (fits(board, col, player, wanted, open, last)) {
          fitting.add(col);
        }
      }
      if (fitting.isEmpty()) {
        return null;
      }
      int col = fitting.get(numbers.next(fitting.size()));
      open &= ~(1L << (col * 7 + board.height(col)));
      board.drop(col);
      run.add(col);
    }
    return run;
  }

  private static boolean fits(PlainBoard board, int col, int player, long wanted, long open, int last) {
    if (board.height(col) == PlainBoard.ROWS) {
      return false;
    }
    int mover = board.toMove();
    int cell = col * 7 + board.height(col);
    if ((wanted >> cell & 1) == 1 && mover != player) {
      return false;
    }
    if (cell == last && open != 1L << cell) {
      return false;
    }
    board.drop(col);
    boolean inside = true;
    for (int line : board.linesOf(mover)) {
      inside &= (PlainBoard.wordOfLine(line) & ~wanted) == 0;
    }
    board.takeBack(col);
    return inside;
  }
}
