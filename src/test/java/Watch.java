import java.util.ArrayList;
import java.util.List;

/** All that can be told of an object from outside, so that a test can say that nothing has changed. */
final class Watch {
  /** Calls on an object whose answers don't matter. */
  interface Run { void on(TrayTurns x); }

  /** One call on an object, and its answer. */
  interface Call { long on(TrayTurns x); }

  /** A call on an object with one number that is tried out. */
  interface CallWith { long on(TrayTurns x, int v); }

  private Watch() {}

  /** NOW, as the document has it: TURN, PORTIONS, PLACES, SEATS of GUESTS, who HAD what. */
  static List<Long> now(TrayTurns x) {
    List<Long> all = new ArrayList<>();
    int guests = x.count(1), dishes = x.count(2);
    all.add((long) x.now(0));
    for (int d = 0; d < dishes; d++) {
      all.add((long) x.dish(d, 0));
      all.add((long) x.dish(d, 1));
    }
    for (int g = 0; g < guests; g++) {
      all.add((long) x.guest(g, 0));
      all.add((long) x.guest(g, 3));
    }
    return all;
  }

  /** Every answer of the calls that ask and change nothing. */
  static List<Long> answers(TrayTurns x) {
    List<Long> all = new ArrayList<>();
    int guests = x.count(1), dishes = x.count(2);
    for (int what = 0; what < 5; what++) all.add((long) x.count(what));
    for (int what = 0; what < 6; what++) all.add((long) x.now(what));
    for (int g = 0; g < guests; g++)
      for (int what = 0; what < 6; what++) all.add((long) x.guest(g, what));
    for (int d = 0; d < dishes; d++) {
      for (int what = 0; what < 5; what++) all.add((long) x.dish(d, what));
      all.add((long) x.look(d));
    }
    all.add((long) x.who());
    all.add(x.trace());
    return all;
  }

  /** What is UNDONE call by call, what the IMAGES hold, what is SEEN and what THE TEXT tells, each of a new object. */
  static List<List<Long>> all(Run before) {
    List<List<Long>> all = new ArrayList<>();
    all.add(answers(made(before)));
    TrayTurns undone = made(before);
    for (int i = 0; i < 11; i++) {
      all.add(List.of((long) undone.undo()));
      all.add(now(undone));
    }
    for (int image = 0; image < 2; image++) {
      TrayTurns x = made(before);
      all.add(List.of((long) x.back(image)));
      all.add(now(x));
      all.add(List.of((long) x.undo()));
    }
    TrayTurns seen = made(before);
    int seats = seen.count(0), dishes = seen.count(2);
    for (int i = 0; i < seats; i++) {
      for (int d = 0; d < dishes; d++) seen.moves(d, i);
      all.add(List.of((long) seen.who()));
    }
    all.add(List.of((long) seen.forget()));
    TrayTurns text = made(before);
    all.add(List.of((long) text.table()));
    all.add(List.of((long) text.type(';'), (long) text.table()));
    all.add(answers(text));
    return all;
  }

  private static TrayTurns made(Run before) {
    TrayTurns x = new TrayTurns();
    before.on(x);
    return x;
  }
}
