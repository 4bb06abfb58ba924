import java.util.List;
import java.util.Set;
import java.util.TreeSet;

/** The edges that promise 2 names for the answer of an accepted call. */
public final class LineEdgesTest {
  private static final int[] VERTICAL = {0, 1};
  private static final int[] HORIZONTAL = {1, 0};
  private static final int[] RISING = {1, 1};
  private static final int[] FALLING = {1, -1};
  private static final int[][] DIRECTIONS = {VERTICAL, HORIZONTAL, RISING, FALLING};

  private static final RunFinder finder = new RunFinder();

  public static void main(String[] args) {
    vertical();
    horizontal();
    rising();
    falling();
    otherwiseOne();
    onlyRealCells();
    neverFromTopToBottom();
    neverPastAnEdge();
    moreThanFour();
    oldLines();
    linesOfTheOpponent();
    twoDoesNotEndTheGame();
    theLastStone();
    Due.end();
  }

  private static void vertical() {
    Due.sentence("vertical: (c, r), (c, r+1), (c, r+2), (c, r+3)");
    everyLine(VERTICAL, 21);
  }

  private static void horizontal() {
    Due.sentence("horizontal: (c, r), (c+1, r), (c+2, r), (c+3, r)");
    everyLine(HORIZONTAL, 24);
  }

  private static void rising() {
    Due.sentence("rising diagonal: (c, r), (c+1, r+1), (c+2, r+2), (c+3, r+3)");
    everyLine(RISING, 12);
  }

  private static void falling() {
    Due.sentence("falling diagonal: (c, r), (c+1, r-1), (c+2, r-2), (c+3, r-3)");
    everyLine(FALLING, 12);
  }

  /** Every line of the direction, in the corners and along the edges too, closed by each of its cells. */
  private static void everyLine(int[] step, int number) {
    int lines = 0;
    for (int col = 0; col < 7; col++) {
      for (int row = 0; row < 6; row++) {
        if (isCell(col + 3 * step[0], row + 3 * step[1])) {
          lines++;
          closedByEachCell(col, row, step);
        }
      }
    }
    Due.is("number of lines", lines, number);
  }

  private static void closedByEachCell(int col, int row, int[] step) {
    long line = straight(col, row, step, 4);
    for (int k = 0; k < 4; k++) {
      // The stones of a column lie upwards, so its line is closed by the highest.
      if (step == VERTICAL && k < 3) {
        continue;
      }
      int last = (col + k * step[0]) * 7 + row + k * step[1];
      answers(1, line, last, 2);
      answers(2, line, last, 2);
    }
  }

  private static boolean isCell(int col, int row) {
    return col >= 0 && col <= 6 && row >= 0 && row <= 5;
  }

  private static long straight(int col, int row, int[] step, int length) {
    long word = 0;
    for (int k = 0; k < length; k++) {
      word += 1L << ((col + k * step[0]) * 7 + row + k * step[1]);
    }
    return word;
  }

  /**
   * Plays a run whose last drop fills the last of these cells for the player
   * and which makes no line outside them: each answer before it is due to be 1.
   */
  private static void answers(int player, long cells, int last, int due) {
    String name = "player " + player + ", cells " + cellsOf(cells);
    List<Integer> run = finder.find(player, cells, last);
    Due.holds(name + ": a run is found", run != null);
    if (run == null) {
      return;
    }
    ConnectFour game = new ConnectFour();
    for (int i = 0; i < run.size(); i++) {
      boolean isLast = i == run.size() - 1;
      Due.is(name + ", run " + run + ", call " + (i + 1), game.drop(run.get(i)), isLast ? due : 1);
    }
    Due.is(name + ", run " + run + ", the cells", new Seen(game).stonesOf(player) & cells, cells);
  }

  private static String cellsOf(long word) {
    StringBuilder text = new StringBuilder();
    for (int cell = 0; cell < 48; cell++) {
      if ((word >> cell & 1) == 1) {
        text.append('(').append(cell / 7).append(", ").append(cell % 7).append(')');
      }
    }
    return text.toString();
  }

  private static void otherwiseOne() {
    Due.sentence("Otherwise the answer is 1.");
    // Three of four cells of every line, each one missing once, are no line.
    for (int[] step : DIRECTIONS) {
      for (int col = 0; col < 7; col++) {
        for (int row = 0; row < 6; row++) {
          if (isCell(col + 3 * step[0], row + 3 * step[1])) {
            long line = straight(col, row, step, 4);
            for (int k = 0; k < 4; k++) {
              long gap = 1L << ((col + k * step[0]) * 7 + row + k * step[1]);
              answers(1, line & ~gap, RunFinder.ANY_CELL, 1);
              answers(2, line & ~gap, RunFinder.ANY_CELL, 1);
            }
          }
        }
      }
    }
  }

  private static void onlyRealCells() {
    Due.sentence("All four cells must be real cells of the board (columns 0..6, rows 0..5)");
    Set<Long> shapes = new TreeSet<>();
    for (int[] step : DIRECTIONS) {
      for (int col = 0; col < 7; col++) {
        for (int row = 0; row < 6; row++) {
          shapes.add(cutOff(col, row, step));
          shapes.add(cutOff(col, row, new int[] {-step[0], -step[1]}));
        }
      }
    }
    areNoLines(shapes);
  }

  /** Four steps from a cell, as far as they lie on the board. */
  private static long cutOff(int col, int row, int[] step) {
    int length = 1;
    while (length < 4 && isCell(col + length * step[0], row + length * step[1])) {
      length++;
    }
    return straight(col, row, step, length);
  }

  private static void neverFromTopToBottom() {
    Due.sentence("a line never continues from the top of one column to the bottom of another");
    // Some stones at the top of one column, the rest of four at the bottom of any other.
    for (int from = 0; from < 7; from++) {
      for (int to = 0; to < 7; to++) {
        for (int top = 1; top <= 3 && from != to; top++) {
          long cells = straight(from, 6 - top, VERTICAL, top) + straight(to, 0, VERTICAL, 4 - top);
          answers(1, cells, RunFinder.ANY_CELL, 1);
          answers(2, cells, RunFinder.ANY_CELL, 1);
        }
      }
    }
  }

  private static void neverPastAnEdge() {
    Due.sentence("nor past any edge.");
    Set<Long> shapes = new TreeSet<>();
    for (int[] step : DIRECTIONS) {
      for (int col = 0; col < 7; col++) {
        for (int row = 0; row < 6; row++) {
          shapes.add(aroundTheBoard(col, row, step));
          shapes.add(columnAfterColumn(col, row, step));
          shapes.add(mirrored(columnAfterColumn(col, row, step)));
          shapes.add(rowAfterRow(col, row, step));
          shapes.add(mirrored(rowAfterRow(col, row, step)));
        }
      }
    }
    areNoLines(shapes);
  }

  /** Those of the shapes that are no line of the board. */
  private static void areNoLines(Set<Long> shapes) {
    for (int i = 0; i < PlainBoard.LINES.size(); i++) {
      shapes.remove(PlainBoard.wordOfLine(i));
    }
    for (long cells : shapes) {
      answers(1, cells, RunFinder.ANY_CELL, 1);
      answers(2, cells, RunFinder.ANY_CELL, 1);
    }
  }

  /** Four steps on a board whose opposite edges meet. */
  private static long aroundTheBoard(int col, int row, int[] step) {
    long word = 0;
    for (int k = 0; k < 4; k++) {
      word |= 1L << ((col + k * step[0]) % 7 * 7 + (row + k * step[1] + 6) % 6);
    }
    return word;
  }

  /** Four steps through cells counted column after column, with no spare bit between. */
  private static long columnAfterColumn(int col, int row, int[] step) {
    long word = 0;
    for (int k = 0; k < 4; k++) {
      int cell = (col * 6 + row + k * (step[0] * 6 + step[1])) % 42;
      word |= 1L << (cell / 6 * 7 + cell % 6);
    }
    return word;
  }

  /** Four steps through cells counted row after row. */
  private static long rowAfterRow(int col, int row, int[] step) {
    long word = 0;
    for (int k = 0; k < 4; k++) {
      int cell = (row * 7 + col + k * (step[1] * 7 + step[0]) + 42) % 42;
      word |= 1L << (cell % 7 * 7 + cell / 7);
    }
    return word;
  }

  private static long mirrored(long word) {
    long mirror = 0;
    for (int col = 0; col < 7; col++) {
      mirror |= (word >> (col * 7) & 63) << ((6 - col) * 7);
    }
    return mirror;
  }

  private static void moreThanFour() {
    Due.sentence("More than four in a row contains four and so also answers 2.");
    for (int[] step : new int[][] {HORIZONTAL, RISING, FALLING}) {
      for (int length = 5; length <= 7; length++) {
        for (int col = 0; col < 7; col++) {
          for (int row = 0; row < 6; row++) {
            if (isCell(col + (length - 1) * step[0], row + (length - 1) * step[1])) {
              closedInTheMiddle(col, row, step, length);
            }
          }
        }
      }
    }
    moreThanFourInAColumn();
  }

  /** By each cell that leaves fewer than four on either side. */
  private static void closedInTheMiddle(int col, int row, int[] step, int length) {
    long cells = straight(col, row, step, length);
    // The board's first stone lies in row 0 and is the first player's, its last
    // one in row 5 and the second's: such a whole row the other can't have.
    boolean wholeRow = length == 7;
    for (int k = length - 4; k <= 3; k++) {
      int last = (col + k * step[0]) * 7 + row + k * step[1];
      if (!wholeRow || row != 5) {
        answers(1, cells, last, 2);
      }
      if (!wholeRow || row != 0) {
        answers(2, cells, last, 2);
      }
    }
  }

  private static void moreThanFourInAColumn() {
    for (int col = 0; col < 7; col++) {
      // In one game the column is the first player's, in the other the
      // second's; the stones of the other player lie about, in no line.
      ConnectFour first = new ConnectFour();
      ConnectFour second = new ConnectFour();
      int[] about = {(col + 1) % 7, (col + 2) % 7, (col + 1) % 7, (col + 2) % 7, (col + 3) % 7, (col + 3) % 7};
      for (int row = 0; row < 6; row++) {
        int due = row < 3 ? 1 : 2;
        Due.is("first player's stone in row " + row, first.drop(col), due);
        Due.is("second player's stone beside the column", first.drop(about[row]), 1);
        Due.is("first player's stone beside the column", second.drop(about[row]), 1);
        Due.is("second player's stone in row " + row, second.drop(col), due);
      }
    }
  }

  private static void oldLines() {
    Due.sentence("Once a player has four in a line, every later accepted drop of that same player"
        + " answers 2, even if the new stone is no part of any line.");
    Numbers numbers = new Numbers();
    int apart = 0;
    for (int i = 0; i < PlainBoard.LINES.size(); i++) {
      for (int player = 1; player <= 2; player++) {
        List<Integer> run = finder.find(player, PlainBoard.wordOfLine(i), RunFinder.ANY_CELL);
        ConnectFour game = new ConnectFour();
        PlainBoard board = new PlainBoard();
        for (int col : run) {
          game.drop(col);
          board.drop(col);
        }
        while (board.moves() < 42) {
          int col = numbers.next(7);
          int mover = board.toMove();
          long cell = 1L << (col * 7 + board.height(col));
          int accepted = board.drop(col);
          int answer = game.drop(col);
          if (accepted != 0 && mover == player) {
            Due.is("line " + i + ", player " + player + ", later drop(" + col + ")", answer, 2);
            apart += isPartOfALine(board, mover, cell) ? 0 : 1;
          }
        }
      }
    }
    Due.holds("many of the new stones were no part of any line: " + apart, apart > 100);
  }

  private static boolean isPartOfALine(PlainBoard board, int player, long cell) {
    boolean part = false;
    for (int line : board.linesOf(player)) {
      part |= (PlainBoard.wordOfLine(line) & cell) != 0;
    }
    return part;
  }

  private static void linesOfTheOpponent() {
    Due.sentence("Lines of the other player play no part:"
        + " if only the opponent has a line, the mover's answer is 1.");
    // One player has a line from the 7th, 8th, 20th or 21st drop on, the other never gets one.
    onlyOneHasALine("350024124256305602106320152156544434113366", 7);
    onlyOneHasALine("424320411616144545222103230615656303605350", 8);
    onlyOneHasALine("231425014231602664233336102066055101545445", 20);
    onlyOneHasALine("511446553055624346114613322650046122303200", 21);
  }

  private static void twoDoesNotEndTheGame() {
    Due.sentence("An answer of 2 does not end the game."
        + " Drops continue to be accepted under the same rules.");
    // Here column after column is filled: both players get lines, and each
    // column still takes six stones and refuses the seventh.
    ConnectFour game = new ConnectFour();
    int twos = 0;
    for (int col = 0; col < 7; col++) {
      for (int row = 0; row < 6; row++) {
        int answer = game.drop(col);
        Due.holds("drop(" + col + ") into row " + row + " is accepted", answer != 0);
        twos += answer == 2 ? 1 : 0;
      }
      Seen before = new Seen(game);
      Due.is("drop(" + col + ") into the full column", game.drop(col), 0);
      Due.is("drop(-1)", game.drop(-1), 0);
      Due.is("drop(7)", game.drop(7), 0);
      before.isStillSo("refused after an answer of 2", game);
    }
    // Rows are of one player each, so the lines begin with column 3 and go on to the end.
    Due.is("number of answers 2", twos, 4 * 6);
  }

  private static void theLastStone() {
    Due.sentence("The answer of an accepted call depends on the mover's stones"
        + " after the new stone is placed");
    // The board's last stones: they close a line at the 42nd or the 41st drop, or never.
    onlyOneHasALine("056500662011124311062201462264455345345333", 42);
    onlyOneHasALine("660401204131060211031435226335444526535562", 41);
    onlyOneHasALine("663555551252401366446361441100221230400233", 43);
    onlyOneHasALine("112513355051000235003566621222133444444666", 43);
  }

  /** The player of the drop with this number, counted from 1, has a line from then on. */
  private static void onlyOneHasALine(String columns, int from) {
    ConnectFour game = new ConnectFour();
    for (int i = 1; i <= columns.length(); i++) {
      char col = columns.charAt(i - 1);
      boolean hasLine = i >= from && i % 2 == from % 2;
      Due.is(columns + ", call " + i + ": drop(" + col + ")", game.drop(col - '0'), hasLine ? 2 : 1);
    }
  }
}
