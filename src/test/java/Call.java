/** A call of a method of the face with its arguments. */
record Call(String name, int... args) {
    String on(AppendedVolume volume) {
        return Calls.answer(volume, name, args);
    }

    @Override
    public String toString() {
        StringBuilder text = new StringBuilder(name);
        for (int arg : args) {
            text.append(' ').append(arg);
        }
        return text.toString();
    }
}
