/** A FAULT of a text, as the model tells it. */
final class ModelFault extends RuntimeException {
    final int kind;
    final int place;

    ModelFault(int kind, int place) {
        super("kind " + kind + " at " + place);
        this.kind = kind;
        this.place = place;
    }
}
