/** The numbers of the document, written out anew, so that a wrong constant of the class is seen. */
interface Refusals {
  int UNKNOWN = -1, OUTSIDE = -2, STATE = -3, FULL = -4, NO = -5, NONE = -6;
  long LOST = -1000000000000000000L;
  int LEAST_INT = Integer.MIN_VALUE, MOST_INT = Integer.MAX_VALUE;
  String TWELVE = "oooooooooooo";
}
